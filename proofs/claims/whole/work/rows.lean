section
-- ===== PART A: goes FIRST, ahead of the names: the tables' words, and 'selects' of the private methods out of them =====
/-- a private method of a class that the tables say can be made, by its rows of tables_1 -/
def lw_okq (q : MethodName × Nat) : Prop := (q.1.cls ≠ "java/lang/invoke/MethodHandle" ∧ q.1.cls ≠ "java/lang/invoke/VarHandle") ∧ Cond.instantiable q.1.cls q.2 ∈ tables_1 ∧ Cond.privateMethod q.1 ∈ tables_1 ∧ Cond.instanceMethod q.1 ∈ tables_1
theorem lw_p0 : lw_okq (⟨"WeightedForest$SetupText", "take", "(II)I"⟩, 4) := ⟨⟨by decide +kernel, by decide +kernel⟩, List.mem_of_getElem? (i := 100) (by decide +kernel), List.mem_of_getElem? (i := 219) (by decide +kernel), List.mem_of_getElem? (i := 220) (by decide +kernel)⟩
theorem lw_p1 : lw_okq (⟨"WeightedForest$SetupText", "takeNumber", "(II)I"⟩, 4) := ⟨⟨by decide +kernel, by decide +kernel⟩, List.mem_of_getElem? (i := 100) (by decide +kernel), List.mem_of_getElem? (i := 223) (by decide +kernel), List.mem_of_getElem? (i := 224) (by decide +kernel)⟩
theorem lw_p2 : lw_okq (⟨"WeightedForest$SetupText", "takeWeights", "(LWeightedForest$Forest;)Z"⟩, 4) := ⟨⟨by decide +kernel, by decide +kernel⟩, List.mem_of_getElem? (i := 100) (by decide +kernel), List.mem_of_getElem? (i := 228) (by decide +kernel), List.mem_of_getElem? (i := 229) (by decide +kernel)⟩
theorem lw_p3 : lw_okq (⟨"WeightedForest$SetupText", "takeEdges", "(LWeightedForest$Forest;)Z"⟩, 4) := ⟨⟨by decide +kernel, by decide +kernel⟩, List.mem_of_getElem? (i := 100) (by decide +kernel), List.mem_of_getElem? (i := 244) (by decide +kernel), List.mem_of_getElem? (i := 245) (by decide +kernel)⟩
theorem lw_p4 : lw_okq (⟨"WeightedForest$SetupText", "takeEdge", "(LWeightedForest$Forest;)Z"⟩, 4) := ⟨⟨by decide +kernel, by decide +kernel⟩, List.mem_of_getElem? (i := 100) (by decide +kernel), List.mem_of_getElem? (i := 248) (by decide +kernel), List.mem_of_getElem? (i := 249) (by decide +kernel)⟩
theorem lw_p5 : lw_okq (⟨"WeightedForest$SetupText", "joinTrees", "(II)V"⟩, 4) := ⟨⟨by decide +kernel, by decide +kernel⟩, List.mem_of_getElem? (i := 100) (by decide +kernel), List.mem_of_getElem? (i := 260) (by decide +kernel), List.mem_of_getElem? (i := 261) (by decide +kernel)⟩
theorem lw_p6 : lw_okq (⟨"WeightedForest", "emptySlots", "()V"⟩, 10) := ⟨⟨by decide +kernel, by decide +kernel⟩, List.mem_of_getElem? (i := 13) (by decide +kernel), List.mem_of_getElem? (i := 279) (by decide +kernel), List.mem_of_getElem? (i := 280) (by decide +kernel)⟩
theorem lw_p7 : lw_okq (⟨"WeightedForest$Survey", "extendOver", "(II)V"⟩, 3) := ⟨⟨by decide +kernel, by decide +kernel⟩, List.mem_of_getElem? (i := 53) (by decide +kernel), List.mem_of_getElem? (i := 322) (by decide +kernel), List.mem_of_getElem? (i := 323) (by decide +kernel)⟩
theorem lw_p8 : lw_okq (⟨"WeightedForest$Survey", "stepToward", "(II)I"⟩, 3) := ⟨⟨by decide +kernel, by decide +kernel⟩, List.mem_of_getElem? (i := 53) (by decide +kernel), List.mem_of_getElem? (i := 395) (by decide +kernel), List.mem_of_getElem? (i := 396) (by decide +kernel)⟩
theorem lw_p9 : lw_okq (⟨"WeightedForest$Survey", "onPath", "(III)Z"⟩, 3) := ⟨⟨by decide +kernel, by decide +kernel⟩, List.mem_of_getElem? (i := 53) (by decide +kernel), List.mem_of_getElem? (i := 466) (by decide +kernel), List.mem_of_getElem? (i := 467) (by decide +kernel)⟩
theorem lw_p10 : lw_okq (⟨"WeightedForest$Contraction", "copyEdges", "(LWeightedForest$Forest;)V"⟩, 7) := ⟨⟨by decide +kernel, by decide +kernel⟩, List.mem_of_getElem? (i := 70) (by decide +kernel), List.mem_of_getElem? (i := 478) (by decide +kernel), List.mem_of_getElem? (i := 479) (by decide +kernel)⟩
theorem lw_p11 : lw_okq (⟨"WeightedForest$Contraction", "gatherTree", "(I)V"⟩, 7) := ⟨⟨by decide +kernel, by decide +kernel⟩, List.mem_of_getElem? (i := 70) (by decide +kernel), List.mem_of_getElem? (i := 484) (by decide +kernel), List.mem_of_getElem? (i := 485) (by decide +kernel)⟩
theorem lw_p12 : lw_okq (⟨"WeightedForest$Contraction", "isVertex", "(I)Z"⟩, 7) := ⟨⟨by decide +kernel, by decide +kernel⟩, List.mem_of_getElem? (i := 70) (by decide +kernel), List.mem_of_getElem? (i := 488) (by decide +kernel), List.mem_of_getElem? (i := 489) (by decide +kernel)⟩
theorem lw_p13 : lw_okq (⟨"WeightedForest$Contraction", "gatherNeighbours", "()V"⟩, 7) := ⟨⟨by decide +kernel, by decide +kernel⟩, List.mem_of_getElem? (i := 70) (by decide +kernel), List.mem_of_getElem? (i := 492) (by decide +kernel), List.mem_of_getElem? (i := 493) (by decide +kernel)⟩
theorem lw_p14 : lw_okq (⟨"WeightedForest$Contraction", "rake", "()V"⟩, 7) := ⟨⟨by decide +kernel, by decide +kernel⟩, List.mem_of_getElem? (i := 70) (by decide +kernel), List.mem_of_getElem? (i := 496) (by decide +kernel), List.mem_of_getElem? (i := 497) (by decide +kernel)⟩
theorem lw_p15 : lw_okq (⟨"WeightedForest$Contraction", "removeGreatest", "()V"⟩, 7) := ⟨⟨by decide +kernel, by decide +kernel⟩, List.mem_of_getElem? (i := 70) (by decide +kernel), List.mem_of_getElem? (i := 500) (by decide +kernel), List.mem_of_getElem? (i := 501) (by decide +kernel)⟩
def lw_privs_1 : List (MethodName × Nat) := [(⟨"WeightedForest$SetupText", "take", "(II)I"⟩, 4), (⟨"WeightedForest$SetupText", "takeNumber", "(II)I"⟩, 4), (⟨"WeightedForest$SetupText", "takeWeights", "(LWeightedForest$Forest;)Z"⟩, 4), (⟨"WeightedForest$SetupText", "takeEdges", "(LWeightedForest$Forest;)Z"⟩, 4), (⟨"WeightedForest$SetupText", "takeEdge", "(LWeightedForest$Forest;)Z"⟩, 4), (⟨"WeightedForest$SetupText", "joinTrees", "(II)V"⟩, 4), (⟨"WeightedForest", "emptySlots", "()V"⟩, 10), (⟨"WeightedForest$Survey", "extendOver", "(II)V"⟩, 3), (⟨"WeightedForest$Survey", "stepToward", "(II)I"⟩, 3), (⟨"WeightedForest$Survey", "onPath", "(III)Z"⟩, 3), (⟨"WeightedForest$Contraction", "copyEdges", "(LWeightedForest$Forest;)V"⟩, 7), (⟨"WeightedForest$Contraction", "gatherTree", "(I)V"⟩, 7), (⟨"WeightedForest$Contraction", "isVertex", "(I)Z"⟩, 7), (⟨"WeightedForest$Contraction", "gatherNeighbours", "()V"⟩, 7), (⟨"WeightedForest$Contraction", "rake", "()V"⟩, 7), (⟨"WeightedForest$Contraction", "removeGreatest", "()V"⟩, 7)]
theorem lw_r1 : ∀ q ∈ lw_privs_1, lw_okq q := List.forall_mem_cons.mpr ⟨lw_p0, List.forall_mem_cons.mpr ⟨lw_p1, List.forall_mem_cons.mpr ⟨lw_p2, List.forall_mem_cons.mpr ⟨lw_p3, List.forall_mem_cons.mpr ⟨lw_p4, List.forall_mem_cons.mpr ⟨lw_p5, List.forall_mem_cons.mpr ⟨lw_p6, List.forall_mem_cons.mpr ⟨lw_p7, List.forall_mem_cons.mpr ⟨lw_p8, List.forall_mem_cons.mpr ⟨lw_p9, List.forall_mem_cons.mpr ⟨lw_p10, List.forall_mem_cons.mpr ⟨lw_p11, List.forall_mem_cons.mpr ⟨lw_p12, List.forall_mem_cons.mpr ⟨lw_p13, List.forall_mem_cons.mpr ⟨lw_p14, List.forall_mem_cons.mpr ⟨lw_p15, fun _ h => absurd h List.not_mem_nil⟩⟩⟩⟩⟩⟩⟩⟩⟩⟩⟩⟩⟩⟩⟩⟩
theorem lw_p16 : lw_okq (⟨"WeightedForest$Contraction", "remove", "(I)V"⟩, 7) := ⟨⟨by decide +kernel, by decide +kernel⟩, List.mem_of_getElem? (i := 70) (by decide +kernel), List.mem_of_getElem? (i := 504) (by decide +kernel), List.mem_of_getElem? (i := 505) (by decide +kernel)⟩
theorem lw_p17 : lw_okq (⟨"WeightedForest$Contraction", "degreeOf", "(I)I"⟩, 7) := ⟨⟨by decide +kernel, by decide +kernel⟩, List.mem_of_getElem? (i := 70) (by decide +kernel), List.mem_of_getElem? (i := 508) (by decide +kernel), List.mem_of_getElem? (i := 509) (by decide +kernel)⟩
theorem lw_p18 : lw_okq (⟨"WeightedForest$Contraction", "compress", "()V"⟩, 7) := ⟨⟨by decide +kernel, by decide +kernel⟩, List.mem_of_getElem? (i := 70) (by decide +kernel), List.mem_of_getElem? (i := 512) (by decide +kernel), List.mem_of_getElem? (i := 513) (by decide +kernel)⟩
theorem lw_p19 : lw_okq (⟨"WeightedForest$Contraction", "makeEdgesOld", "()V"⟩, 7) := ⟨⟨by decide +kernel, by decide +kernel⟩, List.mem_of_getElem? (i := 70) (by decide +kernel), List.mem_of_getElem? (i := 516) (by decide +kernel), List.mem_of_getElem? (i := 517) (by decide +kernel)⟩
theorem lw_p20 : lw_okq (⟨"WeightedForest$Contraction", "bypass", "(I)V"⟩, 7) := ⟨⟨by decide +kernel, by decide +kernel⟩, List.mem_of_getElem? (i := 70) (by decide +kernel), List.mem_of_getElem? (i := 521) (by decide +kernel), List.mem_of_getElem? (i := 522) (by decide +kernel)⟩
theorem lw_p21 : lw_okq (⟨"WeightedForest$Contraction", "neighbourAfter", "(II)I"⟩, 7) := ⟨⟨by decide +kernel, by decide +kernel⟩, List.mem_of_getElem? (i := 70) (by decide +kernel), List.mem_of_getElem? (i := 525) (by decide +kernel), List.mem_of_getElem? (i := 526) (by decide +kernel)⟩
theorem lw_p22 : lw_okq (⟨"WeightedForest$Survey", "heavierPart", "(II)I"⟩, 3) := ⟨⟨by decide +kernel, by decide +kernel⟩, List.mem_of_getElem? (i := 53) (by decide +kernel), List.mem_of_getElem? (i := 557) (by decide +kernel), List.mem_of_getElem? (i := 558) (by decide +kernel)⟩
theorem lw_p23 : lw_okq (⟨"WeightedForest$Survey", "chanceOfPath", "(III)J"⟩, 3) := ⟨⟨by decide +kernel, by decide +kernel⟩, List.mem_of_getElem? (i := 53) (by decide +kernel), List.mem_of_getElem? (i := 572) (by decide +kernel), List.mem_of_getElem? (i := 573) (by decide +kernel)⟩
theorem lw_p24 : lw_okq (⟨"WeightedForest", "obeys", "(I)Z"⟩, 10) := ⟨⟨by decide +kernel, by decide +kernel⟩, List.mem_of_getElem? (i := 13) (by decide +kernel), List.mem_of_getElem? (i := 611) (by decide +kernel), List.mem_of_getElem? (i := 612) (by decide +kernel)⟩
theorem lw_p25 : lw_okq (⟨"WeightedForest", "triesLink", "(II)Z"⟩, 10) := ⟨⟨by decide +kernel, by decide +kernel⟩, List.mem_of_getElem? (i := 13) (by decide +kernel), List.mem_of_getElem? (i := 615) (by decide +kernel), List.mem_of_getElem? (i := 616) (by decide +kernel)⟩
theorem lw_p26 : lw_okq (⟨"WeightedForest", "triesCut", "(II)Z"⟩, 10) := ⟨⟨by decide +kernel, by decide +kernel⟩, List.mem_of_getElem? (i := 13) (by decide +kernel), List.mem_of_getElem? (i := 619) (by decide +kernel), List.mem_of_getElem? (i := 620) (by decide +kernel)⟩
theorem lw_p27 : lw_okq (⟨"WeightedForest", "joinedInTrial", "(II)Z"⟩, 10) := ⟨⟨by decide +kernel, by decide +kernel⟩, List.mem_of_getElem? (i := 13) (by decide +kernel), List.mem_of_getElem? (i := 623) (by decide +kernel), List.mem_of_getElem? (i := 624) (by decide +kernel)⟩
theorem lw_p28 : lw_okq (⟨"WeightedForest", "leavesEarlier", "(II)Z"⟩, 10) := ⟨⟨by decide +kernel, by decide +kernel⟩, List.mem_of_getElem? (i := 13) (by decide +kernel), List.mem_of_getElem? (i := 627) (by decide +kernel), List.mem_of_getElem? (i := 628) (by decide +kernel)⟩
theorem lw_p29 : lw_okq (⟨"WeightedForest", "changeTrial", "(I)V"⟩, 10) := ⟨⟨by decide +kernel, by decide +kernel⟩, List.mem_of_getElem? (i := 13) (by decide +kernel), List.mem_of_getElem? (i := 637) (by decide +kernel), List.mem_of_getElem? (i := 638) (by decide +kernel)⟩
theorem lw_p30 : lw_okq (⟨"WeightedForestModel", "readText", "()I"⟩, 24) := ⟨⟨by decide +kernel, by decide +kernel⟩, List.mem_of_getElem? (i := 650) (by decide +kernel), List.mem_of_getElem? (i := 745) (by decide +kernel), List.mem_of_getElem? (i := 746) (by decide +kernel)⟩
theorem lw_p31 : lw_okq (⟨"WeightedForestModel", "number", "(II)I"⟩, 24) := ⟨⟨by decide +kernel, by decide +kernel⟩, List.mem_of_getElem? (i := 650) (by decide +kernel), List.mem_of_getElem? (i := 749) (by decide +kernel), List.mem_of_getElem? (i := 750) (by decide +kernel)⟩
def lw_privs_2 : List (MethodName × Nat) := [(⟨"WeightedForest$Contraction", "remove", "(I)V"⟩, 7), (⟨"WeightedForest$Contraction", "degreeOf", "(I)I"⟩, 7), (⟨"WeightedForest$Contraction", "compress", "()V"⟩, 7), (⟨"WeightedForest$Contraction", "makeEdgesOld", "()V"⟩, 7), (⟨"WeightedForest$Contraction", "bypass", "(I)V"⟩, 7), (⟨"WeightedForest$Contraction", "neighbourAfter", "(II)I"⟩, 7), (⟨"WeightedForest$Survey", "heavierPart", "(II)I"⟩, 3), (⟨"WeightedForest$Survey", "chanceOfPath", "(III)J"⟩, 3), (⟨"WeightedForest", "obeys", "(I)Z"⟩, 10), (⟨"WeightedForest", "triesLink", "(II)Z"⟩, 10), (⟨"WeightedForest", "triesCut", "(II)Z"⟩, 10), (⟨"WeightedForest", "joinedInTrial", "(II)Z"⟩, 10), (⟨"WeightedForest", "leavesEarlier", "(II)Z"⟩, 10), (⟨"WeightedForest", "changeTrial", "(I)V"⟩, 10), (⟨"WeightedForestModel", "readText", "()I"⟩, 24), (⟨"WeightedForestModel", "number", "(II)I"⟩, 24)]
theorem lw_r2 : ∀ q ∈ lw_privs_2, lw_okq q := List.forall_mem_cons.mpr ⟨lw_p16, List.forall_mem_cons.mpr ⟨lw_p17, List.forall_mem_cons.mpr ⟨lw_p18, List.forall_mem_cons.mpr ⟨lw_p19, List.forall_mem_cons.mpr ⟨lw_p20, List.forall_mem_cons.mpr ⟨lw_p21, List.forall_mem_cons.mpr ⟨lw_p22, List.forall_mem_cons.mpr ⟨lw_p23, List.forall_mem_cons.mpr ⟨lw_p24, List.forall_mem_cons.mpr ⟨lw_p25, List.forall_mem_cons.mpr ⟨lw_p26, List.forall_mem_cons.mpr ⟨lw_p27, List.forall_mem_cons.mpr ⟨lw_p28, List.forall_mem_cons.mpr ⟨lw_p29, List.forall_mem_cons.mpr ⟨lw_p30, List.forall_mem_cons.mpr ⟨lw_p31, fun _ h => absurd h List.not_mem_nil⟩⟩⟩⟩⟩⟩⟩⟩⟩⟩⟩⟩⟩⟩⟩⟩
theorem lw_p32 : lw_okq (⟨"WeightedForestModel", "sign", "(III)I"⟩, 24) := ⟨⟨by decide +kernel, by decide +kernel⟩, List.mem_of_getElem? (i := 650) (by decide +kernel), List.mem_of_getElem? (i := 753) (by decide +kernel), List.mem_of_getElem? (i := 754) (by decide +kernel)⟩
theorem lw_p33 : lw_okq (⟨"WeightedForestModel", "readEdge", "()Z"⟩, 24) := ⟨⟨by decide +kernel, by decide +kernel⟩, List.mem_of_getElem? (i := 650) (by decide +kernel), List.mem_of_getElem? (i := 757) (by decide +kernel), List.mem_of_getElem? (i := 758) (by decide +kernel)⟩
theorem lw_p34 : lw_okq (⟨"WeightedForestModel", "isOneTree", "([III)Z"⟩, 24) := ⟨⟨by decide +kernel, by decide +kernel⟩, List.mem_of_getElem? (i := 650) (by decide +kernel), List.mem_of_getElem? (i := 761) (by decide +kernel), List.mem_of_getElem? (i := 762) (by decide +kernel)⟩
theorem lw_p35 : lw_okq (⟨"WeightedForestModel", "farOf", "([III)I"⟩, 24) := ⟨⟨by decide +kernel, by decide +kernel⟩, List.mem_of_getElem? (i := 650) (by decide +kernel), List.mem_of_getElem? (i := 765) (by decide +kernel), List.mem_of_getElem? (i := 766) (by decide +kernel)⟩
theorem lw_p36 : lw_okq (⟨"WeightedForestModel", "layFar", "([II)V"⟩, 24) := ⟨⟨by decide +kernel, by decide +kernel⟩, List.mem_of_getElem? (i := 650) (by decide +kernel), List.mem_of_getElem? (i := 769) (by decide +kernel), List.mem_of_getElem? (i := 770) (by decide +kernel)⟩
theorem lw_p37 : lw_okq (⟨"WeightedForestModel", "isVertex", "(I)Z"⟩, 24) := ⟨⟨by decide +kernel, by decide +kernel⟩, List.mem_of_getElem? (i := 650) (by decide +kernel), List.mem_of_getElem? (i := 793) (by decide +kernel), List.mem_of_getElem? (i := 794) (by decide +kernel)⟩
theorem lw_p38 : lw_okq (⟨"WeightedForestModel", "linkError", "([IIII)I"⟩, 24) := ⟨⟨by decide +kernel, by decide +kernel⟩, List.mem_of_getElem? (i := 650) (by decide +kernel), List.mem_of_getElem? (i := 809) (by decide +kernel), List.mem_of_getElem? (i := 810) (by decide +kernel)⟩
theorem lw_p39 : lw_okq (⟨"WeightedForestModel", "note", "()V"⟩, 24) := ⟨⟨by decide +kernel, by decide +kernel⟩, List.mem_of_getElem? (i := 650) (by decide +kernel), List.mem_of_getElem? (i := 814) (by decide +kernel), List.mem_of_getElem? (i := 815) (by decide +kernel)⟩
theorem lw_p40 : lw_okq (⟨"WeightedForestModel", "edgeError", "([IIII)I"⟩, 24) := ⟨⟨by decide +kernel, by decide +kernel⟩, List.mem_of_getElem? (i := 650) (by decide +kernel), List.mem_of_getElem? (i := 822) (by decide +kernel), List.mem_of_getElem? (i := 823) (by decide +kernel)⟩
theorem lw_p41 : lw_okq (⟨"WeightedForestModel", "eccentricityOf", "([II)I"⟩, 24) := ⟨⟨by decide +kernel, by decide +kernel⟩, List.mem_of_getElem? (i := 650) (by decide +kernel), List.mem_of_getElem? (i := 850) (by decide +kernel), List.mem_of_getElem? (i := 851) (by decide +kernel)⟩
theorem lw_p42 : lw_okq (⟨"WeightedForestModel", "diameterOf", "([II)I"⟩, 24) := ⟨⟨by decide +kernel, by decide +kernel⟩, List.mem_of_getElem? (i := 650) (by decide +kernel), List.mem_of_getElem? (i := 858) (by decide +kernel), List.mem_of_getElem? (i := 859) (by decide +kernel)⟩
theorem lw_p43 : lw_okq (⟨"WeightedForestModel", "leastOf", "([IIZ)I"⟩, 24) := ⟨⟨by decide +kernel, by decide +kernel⟩, List.mem_of_getElem? (i := 650) (by decide +kernel), List.mem_of_getElem? (i := 870) (by decide +kernel), List.mem_of_getElem? (i := 871) (by decide +kernel)⟩
theorem lw_p44 : lw_okq (⟨"WeightedForestModel", "costOf", "([II)I"⟩, 24) := ⟨⟨by decide +kernel, by decide +kernel⟩, List.mem_of_getElem? (i := 650) (by decide +kernel), List.mem_of_getElem? (i := 874) (by decide +kernel), List.mem_of_getElem? (i := 875) (by decide +kernel)⟩
theorem lw_p45 : lw_okq (⟨"WeightedForestModel", "liesBetween", "(III)Z"⟩, 24) := ⟨⟨by decide +kernel, by decide +kernel⟩, List.mem_of_getElem? (i := 650) (by decide +kernel), List.mem_of_getElem? (i := 890) (by decide +kernel), List.mem_of_getElem? (i := 891) (by decide +kernel)⟩
theorem lw_p46 : lw_okq (⟨"WeightedForestModel", "contract", "([II)V"⟩, 24) := ⟨⟨by decide +kernel, by decide +kernel⟩, List.mem_of_getElem? (i := 650) (by decide +kernel), List.mem_of_getElem? (i := 898) (by decide +kernel), List.mem_of_getElem? (i := 899) (by decide +kernel)⟩
theorem lw_p47 : lw_okq (⟨"WeightedForestModel", "many", "()I"⟩, 24) := ⟨⟨by decide +kernel, by decide +kernel⟩, List.mem_of_getElem? (i := 650) (by decide +kernel), List.mem_of_getElem? (i := 902) (by decide +kernel), List.mem_of_getElem? (i := 903) (by decide +kernel)⟩
def lw_privs_3 : List (MethodName × Nat) := [(⟨"WeightedForestModel", "sign", "(III)I"⟩, 24), (⟨"WeightedForestModel", "readEdge", "()Z"⟩, 24), (⟨"WeightedForestModel", "isOneTree", "([III)Z"⟩, 24), (⟨"WeightedForestModel", "farOf", "([III)I"⟩, 24), (⟨"WeightedForestModel", "layFar", "([II)V"⟩, 24), (⟨"WeightedForestModel", "isVertex", "(I)Z"⟩, 24), (⟨"WeightedForestModel", "linkError", "([IIII)I"⟩, 24), (⟨"WeightedForestModel", "note", "()V"⟩, 24), (⟨"WeightedForestModel", "edgeError", "([IIII)I"⟩, 24), (⟨"WeightedForestModel", "eccentricityOf", "([II)I"⟩, 24), (⟨"WeightedForestModel", "diameterOf", "([II)I"⟩, 24), (⟨"WeightedForestModel", "leastOf", "([IIZ)I"⟩, 24), (⟨"WeightedForestModel", "costOf", "([II)I"⟩, 24), (⟨"WeightedForestModel", "liesBetween", "(III)Z"⟩, 24), (⟨"WeightedForestModel", "contract", "([II)V"⟩, 24), (⟨"WeightedForestModel", "many", "()I"⟩, 24)]
theorem lw_r3 : ∀ q ∈ lw_privs_3, lw_okq q := List.forall_mem_cons.mpr ⟨lw_p32, List.forall_mem_cons.mpr ⟨lw_p33, List.forall_mem_cons.mpr ⟨lw_p34, List.forall_mem_cons.mpr ⟨lw_p35, List.forall_mem_cons.mpr ⟨lw_p36, List.forall_mem_cons.mpr ⟨lw_p37, List.forall_mem_cons.mpr ⟨lw_p38, List.forall_mem_cons.mpr ⟨lw_p39, List.forall_mem_cons.mpr ⟨lw_p40, List.forall_mem_cons.mpr ⟨lw_p41, List.forall_mem_cons.mpr ⟨lw_p42, List.forall_mem_cons.mpr ⟨lw_p43, List.forall_mem_cons.mpr ⟨lw_p44, List.forall_mem_cons.mpr ⟨lw_p45, List.forall_mem_cons.mpr ⟨lw_p46, List.forall_mem_cons.mpr ⟨lw_p47, fun _ h => absurd h List.not_mem_nil⟩⟩⟩⟩⟩⟩⟩⟩⟩⟩⟩⟩⟩⟩⟩⟩
theorem lw_p48 : lw_okq (⟨"WeightedForestModel", "rake", "(I)V"⟩, 24) := ⟨⟨by decide +kernel, by decide +kernel⟩, List.mem_of_getElem? (i := 650) (by decide +kernel), List.mem_of_getElem? (i := 906) (by decide +kernel), List.mem_of_getElem? (i := 907) (by decide +kernel)⟩
theorem lw_p49 : lw_okq (⟨"WeightedForestModel", "degreeOf", "(I)I"⟩, 24) := ⟨⟨by decide +kernel, by decide +kernel⟩, List.mem_of_getElem? (i := 650) (by decide +kernel), List.mem_of_getElem? (i := 910) (by decide +kernel), List.mem_of_getElem? (i := 911) (by decide +kernel)⟩
theorem lw_p50 : lw_okq (⟨"WeightedForestModel", "removeVertex", "(II)V"⟩, 24) := ⟨⟨by decide +kernel, by decide +kernel⟩, List.mem_of_getElem? (i := 650) (by decide +kernel), List.mem_of_getElem? (i := 914) (by decide +kernel), List.mem_of_getElem? (i := 915) (by decide +kernel)⟩
theorem lw_p51 : lw_okq (⟨"WeightedForestModel", "compress", "(I)V"⟩, 24) := ⟨⟨by decide +kernel, by decide +kernel⟩, List.mem_of_getElem? (i := 650) (by decide +kernel), List.mem_of_getElem? (i := 918) (by decide +kernel), List.mem_of_getElem? (i := 919) (by decide +kernel)⟩
theorem lw_p52 : lw_okq (⟨"WeightedForestModel", "neighbour", "(II)I"⟩, 24) := ⟨⟨by decide +kernel, by decide +kernel⟩, List.mem_of_getElem? (i := 650) (by decide +kernel), List.mem_of_getElem? (i := 922) (by decide +kernel), List.mem_of_getElem? (i := 923) (by decide +kernel)⟩
theorem lw_p53 : lw_okq (⟨"WeightedForestModel", "weightWith", "([II)I"⟩, 24) := ⟨⟨by decide +kernel, by decide +kernel⟩, List.mem_of_getElem? (i := 650) (by decide +kernel), List.mem_of_getElem? (i := 938) (by decide +kernel), List.mem_of_getElem? (i := 939) (by decide +kernel)⟩
theorem lw_p54 : lw_okq (⟨"WeightedForestModel", "agrees", "([I)Z"⟩, 24) := ⟨⟨by decide +kernel, by decide +kernel⟩, List.mem_of_getElem? (i := 650) (by decide +kernel), List.mem_of_getElem? (i := 959) (by decide +kernel), List.mem_of_getElem? (i := 960) (by decide +kernel)⟩
theorem lw_p55 : lw_okq (⟨"WeightedForestModel", "command", "(III)Z"⟩, 24) := ⟨⟨by decide +kernel, by decide +kernel⟩, List.mem_of_getElem? (i := 650) (by decide +kernel), List.mem_of_getElem? (i := 972) (by decide +kernel), List.mem_of_getElem? (i := 973) (by decide +kernel)⟩
def lw_privs_4 : List (MethodName × Nat) := [(⟨"WeightedForestModel", "rake", "(I)V"⟩, 24), (⟨"WeightedForestModel", "degreeOf", "(I)I"⟩, 24), (⟨"WeightedForestModel", "removeVertex", "(II)V"⟩, 24), (⟨"WeightedForestModel", "compress", "(I)V"⟩, 24), (⟨"WeightedForestModel", "neighbour", "(II)I"⟩, 24), (⟨"WeightedForestModel", "weightWith", "([II)I"⟩, 24), (⟨"WeightedForestModel", "agrees", "([I)Z"⟩, 24), (⟨"WeightedForestModel", "command", "(III)Z"⟩, 24)]
theorem lw_r4 : ∀ q ∈ lw_privs_4, lw_okq q := List.forall_mem_cons.mpr ⟨lw_p48, List.forall_mem_cons.mpr ⟨lw_p49, List.forall_mem_cons.mpr ⟨lw_p50, List.forall_mem_cons.mpr ⟨lw_p51, List.forall_mem_cons.mpr ⟨lw_p52, List.forall_mem_cons.mpr ⟨lw_p53, List.forall_mem_cons.mpr ⟨lw_p54, List.forall_mem_cons.mpr ⟨lw_p55, fun _ h => absurd h List.not_mem_nil⟩⟩⟩⟩⟩⟩⟩⟩
def lw_privs : List (MethodName × Nat) := lw_privs_1 ++ (lw_privs_2 ++ (lw_privs_3 ++ (lw_privs_4)))
def lw_tbl : List Cond := k2_sels lw_privs ++ tables_1
theorem lw_privs_ok : ∀ q ∈ lw_privs, lw_okq q := by
  show ∀ q ∈ lw_privs_1 ++ (lw_privs_2 ++ (lw_privs_3 ++ (lw_privs_4))), lw_okq q
  exact List.forall_mem_append.mpr ⟨lw_r1, List.forall_mem_append.mpr ⟨lw_r2, List.forall_mem_append.mpr ⟨lw_r3, lw_r4⟩⟩⟩
-- ===== end of PART A; then your names; then what follows =====
def R_law : String := "WeightedForestLaw"
end
section
def RX0 : String := "WeightedForest$Contraction"
def TX0 : u_T := fun k => match k with
  | 0 => ("WeightedForest$Contraction", "count", "I", false)
  | 1 => ("WeightedForest$Contraction", "remaining", "I", false)
  | 2 => ("WeightedForest$Contraction", "round", "I", false)
  | 3 => ("WeightedForest$Contraction", "present", "[Z", true)
  | 4 => ("WeightedForest$Contraction", "raked", "[Z", true)
  | 5 => ("WeightedForest$Contraction", "removedIn", "[I", true)
  | _ => ("WeightedForest$Contraction", "edges", "[[I", true)
def tyX0 : Nat → FieldType := fun k => match k with
  | 0 => .int
  | 1 => .int
  | 2 => .int
  | 3 => .array .boolean
  | 4 => .array .boolean
  | 5 => .array .int
  | _ => .array (.array .int)
abbrev wsX00 : List Cond := u_ws RX0 TX0 7
theorem nmX0 : ∀ a, a < 7 → ∀ b, b < 7 → a ≠ b → (TX0 a).2.1 ≠ (TX0 b).2.1 := by decide +kernel
theorem tyX0_ok : ∀ k, k < 7 → parseFieldDescriptor (TX0 k).2.2.1 = some (tyX0 k) := by decide +kernel
abbrev cX0_init : ByteArray := prog_2_method_1_code
def yX0_init : MethodName := ⟨RX0, "<init>", "()V"⟩
abbrev cX0_contract : ByteArray := prog_2_method_2_code
def yX0_contract : MethodName := ⟨RX0, "contract", "(LWeightedForest$Forest;I)V"⟩
abbrev cX0_roundCount : ByteArray := prog_2_method_3_code
def yX0_roundCount : MethodName := ⟨RX0, "roundCount", "()I"⟩
abbrev cX0_roundOf : ByteArray := prog_2_method_4_code
def yX0_roundOf : MethodName := ⟨RX0, "roundOf", "(I)I"⟩
abbrev cX0_lastVertex : ByteArray := prog_2_method_5_code
def yX0_lastVertex : MethodName := ⟨RX0, "lastVertex", "()I"⟩
abbrev cX0_isVertex : ByteArray := prog_2_method_6_code
def yX0_isVertex : MethodName := ⟨RX0, "isVertex", "(I)Z"⟩
abbrev cX0_copyEdges : ByteArray := prog_2_method_7_code
def yX0_copyEdges : MethodName := ⟨RX0, "copyEdges", "(LWeightedForest$Forest;)V"⟩
abbrev cX0_gatherTree : ByteArray := prog_2_method_8_code
def yX0_gatherTree : MethodName := ⟨RX0, "gatherTree", "(I)V"⟩
abbrev cX0_gatherNeighbours : ByteArray := prog_2_method_9_code
def yX0_gatherNeighbours : MethodName := ⟨RX0, "gatherNeighbours", "()V"⟩
abbrev cX0_rake : ByteArray := prog_2_method_10_code
def yX0_rake : MethodName := ⟨RX0, "rake", "()V"⟩
abbrev cX0_removeGreatest : ByteArray := prog_2_method_11_code
def yX0_removeGreatest : MethodName := ⟨RX0, "removeGreatest", "()V"⟩
abbrev cX0_compress : ByteArray := prog_2_method_12_code
def yX0_compress : MethodName := ⟨RX0, "compress", "()V"⟩
abbrev cX0_makeEdgesOld : ByteArray := prog_2_method_13_code
def yX0_makeEdgesOld : MethodName := ⟨RX0, "makeEdgesOld", "()V"⟩
abbrev cX0_bypass : ByteArray := prog_2_method_14_code
def yX0_bypass : MethodName := ⟨RX0, "bypass", "(I)V"⟩
abbrev cX0_neighbourAfter : ByteArray := prog_2_method_15_code
def yX0_neighbourAfter : MethodName := ⟨RX0, "neighbourAfter", "(II)I"⟩
abbrev cX0_degreeOf : ByteArray := prog_2_method_16_code
def yX0_degreeOf : MethodName := ⟨RX0, "degreeOf", "(I)I"⟩
abbrev cX0_remove : ByteArray := prog_2_method_17_code
def yX0_remove : MethodName := ⟨RX0, "remove", "(I)V"⟩
def RX1 : String := "WeightedForest$Forest"
def TX1 : u_T := fun k => match k with
  | 0 => ("WeightedForest$Forest", "count", "I", false)
  | 1 => ("WeightedForest$Forest", "weights", "[I", true)
  | _ => ("WeightedForest$Forest", "edges", "[[I", true)
def tyX1 : Nat → FieldType := fun k => match k with
  | 0 => .int
  | 1 => .array .int
  | _ => .array (.array .int)
abbrev wsX10 : List Cond := u_ws RX1 TX1 3
theorem nmX1 : ∀ a, a < 3 → ∀ b, b < 3 → a ≠ b → (TX1 a).2.1 ≠ (TX1 b).2.1 := by decide +kernel
theorem tyX1_ok : ∀ k, k < 3 → parseFieldDescriptor (TX1 k).2.2.1 = some (tyX1 k) := by decide +kernel
abbrev cX1_init : ByteArray := prog_3_method_1_code
def yX1_init : MethodName := ⟨RX1, "<init>", "()V"⟩
abbrev cX1_reset : ByteArray := prog_3_method_2_code
def yX1_reset : MethodName := ⟨RX1, "reset", "(I)V"⟩
abbrev cX1_become : ByteArray := prog_3_method_3_code
def yX1_become : MethodName := ⟨RX1, "become", "(LWeightedForest$Forest;)V"⟩
abbrev cX1_vertices : ByteArray := prog_3_method_4_code
def yX1_vertices : MethodName := ⟨RX1, "vertices", "()I"⟩
abbrev cX1_hasVertex : ByteArray := prog_3_method_5_code
def yX1_hasVertex : MethodName := ⟨RX1, "hasVertex", "(I)Z"⟩
abbrev cX1_hasVertices : ByteArray := prog_3_method_6_code
def yX1_hasVertices : MethodName := ⟨RX1, "hasVertices", "(II)Z"⟩
abbrev cX1_weightOf : ByteArray := prog_3_method_7_code
def yX1_weightOf : MethodName := ⟨RX1, "weightOf", "(I)I"⟩
abbrev cX1_putWeight : ByteArray := prog_3_method_8_code
def yX1_putWeight : MethodName := ⟨RX1, "putWeight", "(II)V"⟩
abbrev cX1_hasEdge : ByteArray := prog_3_method_9_code
def yX1_hasEdge : MethodName := ⟨RX1, "hasEdge", "(II)Z"⟩
abbrev cX1_edgeBetween : ByteArray := prog_3_method_10_code
def yX1_edgeBetween : MethodName := ⟨RX1, "edgeBetween", "(II)I"⟩
abbrev cX1_putEdge : ByteArray := prog_3_method_11_code
def yX1_putEdge : MethodName := ⟨RX1, "putEdge", "(III)V"⟩
abbrev cX1_edgeCount : ByteArray := prog_3_method_12_code
def yX1_edgeCount : MethodName := ⟨RX1, "edgeCount", "()I"⟩
def RX2 : String := "WeightedForest$History"
def TX2 : u_T := fun k => match k with
  | 0 => ("WeightedForest$History", "states", "[LWeightedForest$Forest;", true)
  | 1 => ("WeightedForest$History", "next", "I", false)
  | _ => ("WeightedForest$History", "count", "I", false)
def tyX2 : Nat → FieldType := fun k => match k with
  | 0 => .array (.object "WeightedForest$Forest")
  | 1 => .int
  | _ => .int
abbrev wsX20 : List Cond := u_ws RX2 TX2 3
theorem nmX2 : ∀ a, a < 3 → ∀ b, b < 3 → a ≠ b → (TX2 a).2.1 ≠ (TX2 b).2.1 := by decide +kernel
theorem tyX2_ok : ∀ k, k < 3 → parseFieldDescriptor (TX2 k).2.2.1 = some (tyX2 k) := by decide +kernel
abbrev cX2_init : ByteArray := prog_4_method_1_code
def yX2_init : MethodName := ⟨RX2, "<init>", "()V"⟩
abbrev cX2_size : ByteArray := prog_4_method_2_code
def yX2_size : MethodName := ⟨RX2, "size", "()I"⟩
abbrev cX2_remember : ByteArray := prog_4_method_3_code
def yX2_remember : MethodName := ⟨RX2, "remember", "(LWeightedForest$Forest;)V"⟩
abbrev cX2_takeBack : ByteArray := prog_4_method_4_code
def yX2_takeBack : MethodName := ⟨RX2, "takeBack", "(LWeightedForest$Forest;)Z"⟩
abbrev cX2_forget : ByteArray := prog_4_method_5_code
def yX2_forget : MethodName := ⟨RX2, "forget", "()V"⟩
def RX3 : String := "WeightedForest$Observations"
def TX3 : u_T := fun k => match k with
  | 0 => ("WeightedForest$Observations", "starts", "[I", true)
  | 1 => ("WeightedForest$Observations", "ends", "[I", true)
  | 2 => ("WeightedForest$Observations", "lengths", "[I", true)
  | 3 => ("WeightedForest$Observations", "next", "I", false)
  | _ => ("WeightedForest$Observations", "count", "I", false)
def tyX3 : Nat → FieldType := fun k => match k with
  | 0 => .array .int
  | 1 => .array .int
  | 2 => .array .int
  | 3 => .int
  | _ => .int
abbrev wsX30 : List Cond := u_ws RX3 TX3 5
theorem nmX3 : ∀ a, a < 5 → ∀ b, b < 5 → a ≠ b → (TX3 a).2.1 ≠ (TX3 b).2.1 := by decide +kernel
theorem tyX3_ok : ∀ k, k < 5 → parseFieldDescriptor (TX3 k).2.2.1 = some (tyX3 k) := by decide +kernel
abbrev cX3_init : ByteArray := prog_5_method_1_code
def yX3_init : MethodName := ⟨RX3, "<init>", "()V"⟩
abbrev cX3_store : ByteArray := prog_5_method_2_code
def yX3_store : MethodName := ⟨RX3, "store", "(III)I"⟩
abbrev cX3_countWeights : ByteArray := prog_5_method_3_code
def yX3_countWeights : MethodName := ⟨RX3, "countWeights", "(LWeightedForest$Survey;II)I"⟩
def RX4 : String := "WeightedForest$SetupText"
def TX4 : u_T := fun k => match k with
  | 0 => ("WeightedForest$SetupText", "length", "I", false)
  | 1 => ("WeightedForest$SetupText", "signs", "[I", true)
  | 2 => ("WeightedForest$SetupText", "place", "I", false)
  | _ => ("WeightedForest$SetupText", "treeMarks", "[I", true)
def tyX4 : Nat → FieldType := fun k => match k with
  | 0 => .int
  | 1 => .array .int
  | 2 => .int
  | _ => .array .int
abbrev wsX40 : List Cond := u_ws RX4 TX4 4
theorem nmX4 : ∀ a, a < 4 → ∀ b, b < 4 → a ≠ b → (TX4 a).2.1 ≠ (TX4 b).2.1 := by decide +kernel
theorem tyX4_ok : ∀ k, k < 4 → parseFieldDescriptor (TX4 k).2.2.1 = some (tyX4 k) := by decide +kernel
abbrev cX4_init : ByteArray := prog_6_method_1_code
def yX4_init : MethodName := ⟨RX4, "<init>", "()V"⟩
abbrev cX4_size : ByteArray := prog_6_method_2_code
def yX4_size : MethodName := ⟨RX4, "size", "()I"⟩
abbrev cX4_put : ByteArray := prog_6_method_3_code
def yX4_put : MethodName := ⟨RX4, "put", "(I)Z"⟩
abbrev cX4_empty : ByteArray := prog_6_method_4_code
def yX4_empty : MethodName := ⟨RX4, "empty", "()V"⟩
abbrev cX4_readInto : ByteArray := prog_6_method_5_code
def yX4_readInto : MethodName := ⟨RX4, "readInto", "(LWeightedForest$Forest;)I"⟩
abbrev cX4_takeWeights : ByteArray := prog_6_method_6_code
def yX4_takeWeights : MethodName := ⟨RX4, "takeWeights", "(LWeightedForest$Forest;)Z"⟩
abbrev cX4_takeEdges : ByteArray := prog_6_method_7_code
def yX4_takeEdges : MethodName := ⟨RX4, "takeEdges", "(LWeightedForest$Forest;)Z"⟩
abbrev cX4_takeEdge : ByteArray := prog_6_method_8_code
def yX4_takeEdge : MethodName := ⟨RX4, "takeEdge", "(LWeightedForest$Forest;)Z"⟩
abbrev cX4_joinTrees : ByteArray := prog_6_method_9_code
def yX4_joinTrees : MethodName := ⟨RX4, "joinTrees", "(II)V"⟩
abbrev cX4_takeNumber : ByteArray := prog_6_method_10_code
def yX4_takeNumber : MethodName := ⟨RX4, "takeNumber", "(II)I"⟩
abbrev cX4_take : ByteArray := prog_6_method_11_code
def yX4_take : MethodName := ⟨RX4, "take", "(II)I"⟩
def RX5 : String := "WeightedForest$Survey"
def TX5 : u_T := fun k => match k with
  | 0 => ("WeightedForest$Survey", "forest", "LWeightedForest$Forest;", true)
  | 1 => ("WeightedForest$Survey", "count", "I", false)
  | _ => ("WeightedForest$Survey", "lengths", "[[I", true)
def tyX5 : Nat → FieldType := fun k => match k with
  | 0 => .object "WeightedForest$Forest"
  | 1 => .int
  | _ => .array (.array .int)
abbrev wsX50 : List Cond := u_ws RX5 TX5 3
theorem nmX5 : ∀ a, a < 3 → ∀ b, b < 3 → a ≠ b → (TX5 a).2.1 ≠ (TX5 b).2.1 := by decide +kernel
theorem tyX5_ok : ∀ k, k < 3 → parseFieldDescriptor (TX5 k).2.2.1 = some (tyX5 k) := by decide +kernel
abbrev cX5_init : ByteArray := prog_7_method_1_code
def yX5_init : MethodName := ⟨RX5, "<init>", "(LWeightedForest$Forest;)V"⟩
abbrev cX5_measure : ByteArray := prog_7_method_2_code
def yX5_measure : MethodName := ⟨RX5, "measure", "()V"⟩
abbrev cX5_extendOver : ByteArray := prog_7_method_3_code
def yX5_extendOver : MethodName := ⟨RX5, "extendOver", "(II)V"⟩
abbrev cX5_between : ByteArray := prog_7_method_4_code
def yX5_between : MethodName := ⟨RX5, "between", "(II)I"⟩
abbrev cX5_joined : ByteArray := prog_7_method_5_code
def yX5_joined : MethodName := ⟨RX5, "joined", "(II)Z"⟩
abbrev cX5_edgeOf : ByteArray := prog_7_method_6_code
def yX5_edgeOf : MethodName := ⟨RX5, "edgeOf", "(II)I"⟩
abbrev cX5_smallestJoined : ByteArray := prog_7_method_7_code
def yX5_smallestJoined : MethodName := ⟨RX5, "smallestJoined", "(I)I"⟩
abbrev cX5_vertexOnPath : ByteArray := prog_7_method_8_code
def yX5_vertexOnPath : MethodName := ⟨RX5, "vertexOnPath", "(III)I"⟩
abbrev cX5_stepToward : ByteArray := prog_7_method_9_code
def yX5_stepToward : MethodName := ⟨RX5, "stepToward", "(II)I"⟩
abbrev cX5_greatestFrom : ByteArray := prog_7_method_10_code
def yX5_greatestFrom : MethodName := ⟨RX5, "greatestFrom", "(I)I"⟩
abbrev cX5_firstFarthest : ByteArray := prog_7_method_11_code
def yX5_firstFarthest : MethodName := ⟨RX5, "firstFarthest", "(I)I"⟩
abbrev cX5_widthAround : ByteArray := prog_7_method_12_code
def yX5_widthAround : MethodName := ⟨RX5, "widthAround", "(I)I"⟩
abbrev cX5_firstWideEnd : ByteArray := prog_7_method_13_code
def yX5_firstWideEnd : MethodName := ⟨RX5, "firstWideEnd", "(I)I"⟩
abbrev cX5_middleOf : ByteArray := prog_7_method_14_code
def yX5_middleOf : MethodName := ⟨RX5, "middleOf", "(I)I"⟩
abbrev cX5_priceOf : ByteArray := prog_7_method_15_code
def yX5_priceOf : MethodName := ⟨RX5, "priceOf", "(I)I"⟩
abbrev cX5_cheapestOf : ByteArray := prog_7_method_16_code
def yX5_cheapestOf : MethodName := ⟨RX5, "cheapestOf", "(I)I"⟩
abbrev cX5_meetingOf : ByteArray := prog_7_method_17_code
def yX5_meetingOf : MethodName := ⟨RX5, "meetingOf", "(III)I"⟩
abbrev cX5_onPath : ByteArray := prog_7_method_18_code
def yX5_onPath : MethodName := ⟨RX5, "onPath", "(III)Z"⟩
abbrev cX5_goesOver : ByteArray := prog_7_method_19_code
def yX5_goesOver : MethodName := ⟨RX5, "goesOver", "(IIII)Z"⟩
abbrev cX5_evenestEdge : ByteArray := prog_7_method_20_code
def yX5_evenestEdge : MethodName := ⟨RX5, "evenestEdge", "(I)I"⟩
abbrev cX5_heavierPart : ByteArray := prog_7_method_21_code
def yX5_heavierPart : MethodName := ⟨RX5, "heavierPart", "(II)I"⟩
abbrev cX5_reachOf : ByteArray := prog_7_method_22_code
def yX5_reachOf : MethodName := ⟨RX5, "reachOf", "(II)J"⟩
abbrev cX5_chanceOfPath : ByteArray := prog_7_method_23_code
def yX5_chanceOfPath : MethodName := ⟨RX5, "chanceOfPath", "(III)J"⟩
def RX6 : String := "WeightedForest"
def TX6 : u_T := fun k => match k with
  | 0 => ("WeightedForest", "forest", "LWeightedForest$Forest;", true)
  | 1 => ("WeightedForest", "survey", "LWeightedForest$Survey;", true)
  | 2 => ("WeightedForest", "trial", "LWeightedForest$Forest;", true)
  | 3 => ("WeightedForest", "trialSurvey", "LWeightedForest$Survey;", true)
  | 4 => ("WeightedForest", "contraction", "LWeightedForest$Contraction;", true)
  | 5 => ("WeightedForest", "text", "LWeightedForest$SetupText;", true)
  | 6 => ("WeightedForest", "history", "LWeightedForest$History;", true)
  | 7 => ("WeightedForest", "observations", "LWeightedForest$Observations;", true)
  | 8 => ("WeightedForest", "slots", "[LWeightedForest$Forest;", true)
  | _ => ("WeightedForest", "filled", "[Z", true)
def tyX6 : Nat → FieldType := fun k => match k with
  | 0 => .object "WeightedForest$Forest"
  | 1 => .object "WeightedForest$Survey"
  | 2 => .object "WeightedForest$Forest"
  | 3 => .object "WeightedForest$Survey"
  | 4 => .object "WeightedForest$Contraction"
  | 5 => .object "WeightedForest$SetupText"
  | 6 => .object "WeightedForest$History"
  | 7 => .object "WeightedForest$Observations"
  | 8 => .array (.object "WeightedForest$Forest")
  | _ => .array .boolean
abbrev wsX60 : List Cond := u_ws RX6 TX6 10
theorem nmX6 : ∀ a, a < 10 → ∀ b, b < 10 → a ≠ b → (TX6 a).2.1 ≠ (TX6 b).2.1 := by decide +kernel
theorem tyX6_ok : ∀ k, k < 10 → parseFieldDescriptor (TX6 k).2.2.1 = some (tyX6 k) := by decide +kernel
abbrev cX6_init : ByteArray := prog_1_method_1_code
def yX6_init : MethodName := ⟨RX6, "<init>", "()V"⟩
abbrev cX6_append : ByteArray := prog_1_method_2_code
def yX6_append : MethodName := ⟨RX6, "append", "(I)I"⟩
abbrev cX6_clearText : ByteArray := prog_1_method_3_code
def yX6_clearText : MethodName := ⟨RX6, "clearText", "()I"⟩
abbrev cX6_errorPosition : ByteArray := prog_1_method_4_code
def yX6_errorPosition : MethodName := ⟨RX6, "errorPosition", "()I"⟩
abbrev cX6_load : ByteArray := prog_1_method_5_code
def yX6_load : MethodName := ⟨RX6, "load", "()I"⟩
abbrev cX6_emptySlots : ByteArray := prog_1_method_6_code
def yX6_emptySlots : MethodName := ⟨RX6, "emptySlots", "()V"⟩
abbrev cX6_vertexWeight : ByteArray := prog_1_method_7_code
def yX6_vertexWeight : MethodName := ⟨RX6, "vertexWeight", "(I)I"⟩
abbrev cX6_edgeWeight : ByteArray := prog_1_method_8_code
def yX6_edgeWeight : MethodName := ⟨RX6, "edgeWeight", "(II)I"⟩
abbrev cX6_treeOf : ByteArray := prog_1_method_9_code
def yX6_treeOf : MethodName := ⟨RX6, "treeOf", "(I)I"⟩
abbrev cX6_link : ByteArray := prog_1_method_10_code
def yX6_link : MethodName := ⟨RX6, "link", "(III)I"⟩
abbrev cX6_cut : ByteArray := prog_1_method_11_code
def yX6_cut : MethodName := ⟨RX6, "cut", "(II)I"⟩
abbrev cX6_setEdgeWeight : ByteArray := prog_1_method_12_code
def yX6_setEdgeWeight : MethodName := ⟨RX6, "setEdgeWeight", "(III)I"⟩
abbrev cX6_setVertexWeight : ByteArray := prog_1_method_13_code
def yX6_setVertexWeight : MethodName := ⟨RX6, "setVertexWeight", "(II)I"⟩
abbrev cX6_undo : ByteArray := prog_1_method_14_code
def yX6_undo : MethodName := ⟨RX6, "undo", "()I"⟩
abbrev cX6_linkError : ByteArray := prog_1_method_15_code
def yX6_linkError : MethodName := ⟨RX6, "linkError", "(LWeightedForest$Forest;LWeightedForest$Survey;III)I"⟩
abbrev cX6_cutError : ByteArray := prog_1_method_16_code
def yX6_cutError : MethodName := ⟨RX6, "cutError", "(LWeightedForest$Forest;II)I"⟩
abbrev cX6_distance : ByteArray := prog_1_method_17_code
def yX6_distance : MethodName := ⟨RX6, "distance", "(II)I"⟩
abbrev cX6_pathVertex : ByteArray := prog_1_method_18_code
def yX6_pathVertex : MethodName := ⟨RX6, "pathVertex", "(III)I"⟩
abbrev cX6_eccentricity : ByteArray := prog_1_method_19_code
def yX6_eccentricity : MethodName := ⟨RX6, "eccentricity", "(I)I"⟩
abbrev cX6_diameter : ByteArray := prog_1_method_20_code
def yX6_diameter : MethodName := ⟨RX6, "diameter", "(I)I"⟩
abbrev cX6_diameterEnd : ByteArray := prog_1_method_21_code
def yX6_diameterEnd : MethodName := ⟨RX6, "diameterEnd", "(II)I"⟩
abbrev cX6_centre : ByteArray := prog_1_method_22_code
def yX6_centre : MethodName := ⟨RX6, "centre", "(I)I"⟩
abbrev cX6_median : ByteArray := prog_1_method_23_code
def yX6_median : MethodName := ⟨RX6, "median", "(I)I"⟩
abbrev cX6_cost : ByteArray := prog_1_method_24_code
def yX6_cost : MethodName := ⟨RX6, "cost", "(I)I"⟩
abbrev cX6_meeting : ByteArray := prog_1_method_25_code
def yX6_meeting : MethodName := ⟨RX6, "meeting", "(III)I"⟩
abbrev cX6_rounds : ByteArray := prog_1_method_26_code
def yX6_rounds : MethodName := ⟨RX6, "rounds", "(I)I"⟩
abbrev cX6_removalRound : ByteArray := prog_1_method_27_code
def yX6_removalRound : MethodName := ⟨RX6, "removalRound", "(I)I"⟩
abbrev cX6_survivor : ByteArray := prog_1_method_28_code
def yX6_survivor : MethodName := ⟨RX6, "survivor", "(I)I"⟩
abbrev cX6_balancedCut : ByteArray := prog_1_method_29_code
def yX6_balancedCut : MethodName := ⟨RX6, "balancedCut", "(I)I"⟩
abbrev cX6_expectedReach : ByteArray := prog_1_method_30_code
def yX6_expectedReach : MethodName := ⟨RX6, "expectedReach", "(II)J"⟩
abbrev cX6_observe : ByteArray := prog_1_method_31_code
def yX6_observe : MethodName := ⟨RX6, "observe", "(III)I"⟩
abbrev cX6_possibleWeights : ByteArray := prog_1_method_32_code
def yX6_possibleWeights : MethodName := ⟨RX6, "possibleWeights", "(II)I"⟩
abbrev cX6_runScript : ByteArray := prog_1_method_33_code
def yX6_runScript : MethodName := ⟨RX6, "runScript", "(IJ)I"⟩
abbrev cX6_obeys : ByteArray := prog_1_method_34_code
def yX6_obeys : MethodName := ⟨RX6, "obeys", "(I)Z"⟩
abbrev cX6_triesLink : ByteArray := prog_1_method_35_code
def yX6_triesLink : MethodName := ⟨RX6, "triesLink", "(II)Z"⟩
abbrev cX6_triesCut : ByteArray := prog_1_method_36_code
def yX6_triesCut : MethodName := ⟨RX6, "triesCut", "(II)Z"⟩
abbrev cX6_joinedInTrial : ByteArray := prog_1_method_37_code
def yX6_joinedInTrial : MethodName := ⟨RX6, "joinedInTrial", "(II)Z"⟩
abbrev cX6_leavesEarlier : ByteArray := prog_1_method_38_code
def yX6_leavesEarlier : MethodName := ⟨RX6, "leavesEarlier", "(II)Z"⟩
abbrev cX6_randomChanges : ByteArray := prog_1_method_39_code
def yX6_randomChanges : MethodName := ⟨RX6, "randomChanges", "(JI)I"⟩
abbrev cX6_changeTrial : ByteArray := prog_1_method_40_code
def yX6_changeTrial : MethodName := ⟨RX6, "changeTrial", "(I)V"⟩
abbrev cX6_save : ByteArray := prog_1_method_41_code
def yX6_save : MethodName := ⟨RX6, "save", "(I)I"⟩
abbrev cX6_restore : ByteArray := prog_1_method_42_code
def yX6_restore : MethodName := ⟨RX6, "restore", "(I)I"⟩
def RX7 : String := "WeightedForestModel"
def TX7 : u_T := fun k => match k with
  | 0 => ("WeightedForestModel", "text", "[I", true)
  | 1 => ("WeightedForestModel", "length", "I", false)
  | 2 => ("WeightedForestModel", "place", "I", false)
  | 3 => ("WeightedForestModel", "n", "I", false)
  | 4 => ("WeightedForestModel", "readN", "I", false)
  | 5 => ("WeightedForestModel", "now", "[I", true)
  | 6 => ("WeightedForestModel", "trial", "[I", true)
  | 7 => ("WeightedForestModel", "read", "[I", true)
  | 8 => ("WeightedForestModel", "diary", "[I", true)
  | 9 => ("WeightedForestModel", "acts", "I", false)
  | 10 => ("WeightedForestModel", "next", "I", false)
  | 11 => ("WeightedForestModel", "kept", "[I", true)
  | 12 => ("WeightedForestModel", "isKept", "[Z", true)
  | 13 => ("WeightedForestModel", "told", "[I", true)
  | 14 => ("WeightedForestModel", "toldMany", "I", false)
  | 15 => ("WeightedForestModel", "far", "[I", true)
  | 16 => ("WeightedForestModel", "hops", "[I", true)
  | 17 => ("WeightedForestModel", "farThere", "[I", true)
  | 18 => ("WeightedForestModel", "link", "[I", true)
  | 19 => ("WeightedForestModel", "isThere", "[Z", true)
  | 20 => ("WeightedForestModel", "goes", "[Z", true)
  | 21 => ("WeightedForestModel", "goneIn", "[I", true)
  | 22 => ("WeightedForestModel", "survivorIs", "I", false)
  | _ => ("WeightedForestModel", "roundsAre", "I", false)
def tyX7 : Nat → FieldType := fun k => match k with
  | 0 => .array .int
  | 1 => .int
  | 2 => .int
  | 3 => .int
  | 4 => .int
  | 5 => .array .int
  | 6 => .array .int
  | 7 => .array .int
  | 8 => .array .int
  | 9 => .int
  | 10 => .int
  | 11 => .array .int
  | 12 => .array .boolean
  | 13 => .array .int
  | 14 => .int
  | 15 => .array .int
  | 16 => .array .int
  | 17 => .array .int
  | 18 => .array .int
  | 19 => .array .boolean
  | 20 => .array .boolean
  | 21 => .array .int
  | 22 => .int
  | _ => .int
abbrev wsX70 : List Cond := u_ws RX7 TX7 24
theorem nmX7 : ∀ a, a < 24 → ∀ b, b < 24 → a ≠ b → (TX7 a).2.1 ≠ (TX7 b).2.1 := by decide +kernel
theorem tyX7_ok : ∀ k, k < 24 → parseFieldDescriptor (TX7 k).2.2.1 = some (tyX7 k) := by decide +kernel
abbrev cX7_init : ByteArray := prog_9_method_1_code
def yX7_init : MethodName := ⟨RX7, "<init>", "()V"⟩
abbrev cX7_in : ByteArray := prog_9_method_3_code
def yX7_in : MethodName := ⟨RX7, "in", "(JJJ)Z"⟩
abbrev cX7_copy : ByteArray := prog_9_method_4_code
def yX7_copy : MethodName := ⟨RX7, "copy", "([I[I)V"⟩
abbrev cX7_at : ByteArray := prog_9_method_5_code
def yX7_at : MethodName := ⟨RX7, "at", "(II)I"⟩
abbrev cX7_isVertex : ByteArray := prog_9_method_6_code
def yX7_isVertex : MethodName := ⟨RX7, "isVertex", "(I)Z"⟩
abbrev cX7_edgesOf : ByteArray := prog_9_method_7_code
def yX7_edgesOf : MethodName := ⟨RX7, "edgesOf", "([I)I"⟩
abbrev cX7_join : ByteArray := prog_9_method_8_code
def yX7_join : MethodName := ⟨RX7, "join", "([IIII)V"⟩
abbrev cX7_layFar : ByteArray := prog_9_method_9_code
def yX7_layFar : MethodName := ⟨RX7, "layFar", "([II)V"⟩
abbrev cX7_farOf : ByteArray := prog_9_method_10_code
def yX7_farOf : MethodName := ⟨RX7, "farOf", "([III)I"⟩
abbrev cX7_isOneTree : ByteArray := prog_9_method_11_code
def yX7_isOneTree : MethodName := ⟨RX7, "isOneTree", "([III)Z"⟩
abbrev cX7_eccentricityOf : ByteArray := prog_9_method_12_code
def yX7_eccentricityOf : MethodName := ⟨RX7, "eccentricityOf", "([II)I"⟩
abbrev cX7_diameterOf : ByteArray := prog_9_method_13_code
def yX7_diameterOf : MethodName := ⟨RX7, "diameterOf", "([II)I"⟩
abbrev cX7_costOf : ByteArray := prog_9_method_14_code
def yX7_costOf : MethodName := ⟨RX7, "costOf", "([II)I"⟩
abbrev cX7_leastOf : ByteArray := prog_9_method_15_code
def yX7_leastOf : MethodName := ⟨RX7, "leastOf", "([IIZ)I"⟩
abbrev cX7_append : ByteArray := prog_9_method_16_code
def yX7_append : MethodName := ⟨RX7, "append", "(I)I"⟩
abbrev cX7_clearText : ByteArray := prog_9_method_17_code
def yX7_clearText : MethodName := ⟨RX7, "clearText", "()I"⟩
abbrev cX7_sign : ByteArray := prog_9_method_18_code
def yX7_sign : MethodName := ⟨RX7, "sign", "(III)I"⟩
abbrev cX7_number : ByteArray := prog_9_method_19_code
def yX7_number : MethodName := ⟨RX7, "number", "(II)I"⟩
abbrev cX7_readEdge : ByteArray := prog_9_method_20_code
def yX7_readEdge : MethodName := ⟨RX7, "readEdge", "()Z"⟩
abbrev cX7_readText : ByteArray := prog_9_method_21_code
def yX7_readText : MethodName := ⟨RX7, "readText", "()I"⟩
abbrev cX7_errorPosition : ByteArray := prog_9_method_22_code
def yX7_errorPosition : MethodName := ⟨RX7, "errorPosition", "()I"⟩
abbrev cX7_load : ByteArray := prog_9_method_23_code
def yX7_load : MethodName := ⟨RX7, "load", "()I"⟩
abbrev cX7_vertexWeight : ByteArray := prog_9_method_24_code
def yX7_vertexWeight : MethodName := ⟨RX7, "vertexWeight", "(I)I"⟩
abbrev cX7_edgeWeight : ByteArray := prog_9_method_25_code
def yX7_edgeWeight : MethodName := ⟨RX7, "edgeWeight", "(II)I"⟩
abbrev cX7_treeOf : ByteArray := prog_9_method_26_code
def yX7_treeOf : MethodName := ⟨RX7, "treeOf", "(I)I"⟩
abbrev cX7_note : ByteArray := prog_9_method_27_code
def yX7_note : MethodName := ⟨RX7, "note", "()V"⟩
abbrev cX7_linkError : ByteArray := prog_9_method_28_code
def yX7_linkError : MethodName := ⟨RX7, "linkError", "([IIII)I"⟩
abbrev cX7_link : ByteArray := prog_9_method_29_code
def yX7_link : MethodName := ⟨RX7, "link", "(III)I"⟩
abbrev cX7_edgeError : ByteArray := prog_9_method_30_code
def yX7_edgeError : MethodName := ⟨RX7, "edgeError", "([IIII)I"⟩
abbrev cX7_cut : ByteArray := prog_9_method_31_code
def yX7_cut : MethodName := ⟨RX7, "cut", "(II)I"⟩
abbrev cX7_setEdgeWeight : ByteArray := prog_9_method_32_code
def yX7_setEdgeWeight : MethodName := ⟨RX7, "setEdgeWeight", "(III)I"⟩
abbrev cX7_setVertexWeight : ByteArray := prog_9_method_33_code
def yX7_setVertexWeight : MethodName := ⟨RX7, "setVertexWeight", "(II)I"⟩
abbrev cX7_undo : ByteArray := prog_9_method_34_code
def yX7_undo : MethodName := ⟨RX7, "undo", "()I"⟩
abbrev cX7_distance : ByteArray := prog_9_method_35_code
def yX7_distance : MethodName := ⟨RX7, "distance", "(II)I"⟩
abbrev cX7_pathVertex : ByteArray := prog_9_method_36_code
def yX7_pathVertex : MethodName := ⟨RX7, "pathVertex", "(III)I"⟩
abbrev cX7_eccentricity : ByteArray := prog_9_method_37_code
def yX7_eccentricity : MethodName := ⟨RX7, "eccentricity", "(I)I"⟩
abbrev cX7_diameter : ByteArray := prog_9_method_38_code
def yX7_diameter : MethodName := ⟨RX7, "diameter", "(I)I"⟩
abbrev cX7_diameterEnd : ByteArray := prog_9_method_39_code
def yX7_diameterEnd : MethodName := ⟨RX7, "diameterEnd", "(II)I"⟩
abbrev cX7_centre : ByteArray := prog_9_method_40_code
def yX7_centre : MethodName := ⟨RX7, "centre", "(I)I"⟩
abbrev cX7_median : ByteArray := prog_9_method_41_code
def yX7_median : MethodName := ⟨RX7, "median", "(I)I"⟩
abbrev cX7_cost : ByteArray := prog_9_method_42_code
def yX7_cost : MethodName := ⟨RX7, "cost", "(I)I"⟩
abbrev cX7_liesBetween : ByteArray := prog_9_method_43_code
def yX7_liesBetween : MethodName := ⟨RX7, "liesBetween", "(III)Z"⟩
abbrev cX7_meeting : ByteArray := prog_9_method_44_code
def yX7_meeting : MethodName := ⟨RX7, "meeting", "(III)I"⟩
abbrev cX7_degreeOf : ByteArray := prog_9_method_45_code
def yX7_degreeOf : MethodName := ⟨RX7, "degreeOf", "(I)I"⟩
abbrev cX7_removeVertex : ByteArray := prog_9_method_46_code
def yX7_removeVertex : MethodName := ⟨RX7, "removeVertex", "(II)V"⟩
abbrev cX7_neighbour : ByteArray := prog_9_method_47_code
def yX7_neighbour : MethodName := ⟨RX7, "neighbour", "(II)I"⟩
abbrev cX7_many : ByteArray := prog_9_method_48_code
def yX7_many : MethodName := ⟨RX7, "many", "()I"⟩
abbrev cX7_rake : ByteArray := prog_9_method_49_code
def yX7_rake : MethodName := ⟨RX7, "rake", "(I)V"⟩
abbrev cX7_compress : ByteArray := prog_9_method_50_code
def yX7_compress : MethodName := ⟨RX7, "compress", "(I)V"⟩
abbrev cX7_contract : ByteArray := prog_9_method_51_code
def yX7_contract : MethodName := ⟨RX7, "contract", "([II)V"⟩
abbrev cX7_rounds : ByteArray := prog_9_method_52_code
def yX7_rounds : MethodName := ⟨RX7, "rounds", "(I)I"⟩
abbrev cX7_removalRound : ByteArray := prog_9_method_53_code
def yX7_removalRound : MethodName := ⟨RX7, "removalRound", "(I)I"⟩
abbrev cX7_survivor : ByteArray := prog_9_method_54_code
def yX7_survivor : MethodName := ⟨RX7, "survivor", "(I)I"⟩
abbrev cX7_weightWith : ByteArray := prog_9_method_55_code
def yX7_weightWith : MethodName := ⟨RX7, "weightWith", "([II)I"⟩
abbrev cX7_balancedCut : ByteArray := prog_9_method_56_code
def yX7_balancedCut : MethodName := ⟨RX7, "balancedCut", "(I)I"⟩
abbrev cX7_expectedReach : ByteArray := prog_9_method_57_code
def yX7_expectedReach : MethodName := ⟨RX7, "expectedReach", "(II)J"⟩
abbrev cX7_observe : ByteArray := prog_9_method_58_code
def yX7_observe : MethodName := ⟨RX7, "observe", "(III)I"⟩
abbrev cX7_agrees : ByteArray := prog_9_method_59_code
def yX7_agrees : MethodName := ⟨RX7, "agrees", "([I)Z"⟩
abbrev cX7_possibleWeights : ByteArray := prog_9_method_60_code
def yX7_possibleWeights : MethodName := ⟨RX7, "possibleWeights", "(II)I"⟩
abbrev cX7_command : ByteArray := prog_9_method_61_code
def yX7_command : MethodName := ⟨RX7, "command", "(III)Z"⟩
abbrev cX7_hundredThousands : ByteArray := prog_9_method_62_code
def yX7_hundredThousands : MethodName := ⟨RX7, "hundredThousands", "(I)J"⟩
abbrev cX7_runScript : ByteArray := prog_9_method_63_code
def yX7_runScript : MethodName := ⟨RX7, "runScript", "(IJ)I"⟩
abbrev cX7_randomChanges : ByteArray := prog_9_method_64_code
def yX7_randomChanges : MethodName := ⟨RX7, "randomChanges", "(JI)I"⟩
abbrev cX7_save : ByteArray := prog_9_method_65_code
def yX7_save : MethodName := ⟨RX7, "save", "(I)I"⟩
abbrev cX7_restore : ByteArray := prog_9_method_66_code
def yX7_restore : MethodName := ⟨RX7, "restore", "(I)I"⟩
def RJ9 : String := "java/lang/Math"
def TJ9 : u_T := fun k => match k with
  | _ => ("", "", "", false)
def tyJ9 : Nat → FieldType := fun k => match k with
  | _ => .int
abbrev wsJ90 : List Cond := u_ws RJ9 TJ9 0
theorem nmJ9 : ∀ a, a < 0 → ∀ b, b < 0 → a ≠ b → (TJ9 a).2.1 ≠ (TJ9 b).2.1 := by decide +kernel
theorem tyJ9_ok : ∀ k, k < 0 → parseFieldDescriptor (TJ9 k).2.2.1 = some (tyJ9 k) := by decide +kernel
abbrev cJ9_max_7cf53 : ByteArray := prog_10_method_65_code
def yJ9_max_7cf53 : MethodName := ⟨RJ9, "max", "(II)I"⟩
abbrev cJ9_min_7cf53 : ByteArray := prog_10_method_69_code
def yJ9_min_7cf53 : MethodName := ⟨RJ9, "min", "(II)I"⟩
def RJ10 : String := "java/lang/System"
def TJ10 : u_T := fun k => match k with
  | _ => ("", "", "", false)
def tyJ10 : Nat → FieldType := fun k => match k with
  | _ => .int
abbrev wsJ100 : List Cond := u_ws RJ10 TJ10 0
theorem nmJ10 : ∀ a, a < 0 → ∀ b, b < 0 → a ≠ b → (TJ10 a).2.1 ≠ (TJ10 b).2.1 := by decide +kernel
theorem tyJ10_ok : ∀ k, k < 0 → parseFieldDescriptor (TJ10 k).2.2.1 = some (tyJ10 k) := by decide +kernel
def RJ7 : String := "java/util/Arrays"
def TJ7 : u_T := fun k => match k with
  | _ => ("", "", "", false)
def tyJ7 : Nat → FieldType := fun k => match k with
  | _ => .int
abbrev wsJ70 : List Cond := u_ws RJ7 TJ7 0
theorem nmJ7 : ∀ a, a < 0 → ∀ b, b < 0 → a ≠ b → (TJ7 a).2.1 ≠ (TJ7 b).2.1 := by decide +kernel
theorem tyJ7_ok : ∀ k, k < 0 → parseFieldDescriptor (TJ7 k).2.2.1 = some (tyJ7 k) := by decide +kernel
abbrev cJ7_fill_53178 : ByteArray := prog_12_method_103_code
def yJ7_fill_53178 : MethodName := ⟨RJ7, "fill", "([II)V"⟩
def RL : String := "WeightedForestLaw"
abbrev cL_law : ByteArray := code
def yL_law : MethodName := ⟨RL, "law", "([I)Z"⟩
abbrev vwCl : List vw_C := [(RX0, TX0, 7), (RX1, TX1, 3), (RX2, TX2, 3), (RX3, TX3, 5), (RX4, TX4, 4), (RX5, TX5, 3), (RX6, TX6, 10), (RX7, TX7, 24)]
end
section
theorem dX0_init_0 : decode cX0_init 0 = .ok (.aload_n 0, 1) := by decide +kernel
theorem dX0_init_1 : decode cX0_init 1 = .ok (.invokespecial 3, 3) := by decide +kernel
theorem dX0_init_4 : decode cX0_init 4 = .ok (.aload_n 0, 1) := by decide +kernel
theorem dX0_init_5 : decode cX0_init 5 = .ok (.bipush 12, 2) := by decide +kernel
theorem dX0_init_7 : decode cX0_init 7 = .ok (.newarray .boolean, 2) := by decide +kernel
theorem dX0_init_9 : decode cX0_init 9 = .ok (.putfield 9, 3) := by decide +kernel
theorem dX0_init_12 : decode cX0_init 12 = .ok (.aload_n 0, 1) := by decide +kernel
theorem dX0_init_13 : decode cX0_init 13 = .ok (.bipush 12, 2) := by decide +kernel
theorem dX0_init_15 : decode cX0_init 15 = .ok (.newarray .boolean, 2) := by decide +kernel
theorem dX0_init_17 : decode cX0_init 17 = .ok (.putfield 15, 3) := by decide +kernel
theorem dX0_init_20 : decode cX0_init 20 = .ok (.aload_n 0, 1) := by decide +kernel
theorem dX0_init_21 : decode cX0_init 21 = .ok (.bipush 12, 2) := by decide +kernel
theorem dX0_init_23 : decode cX0_init 23 = .ok (.newarray .int, 2) := by decide +kernel
theorem dX0_init_25 : decode cX0_init 25 = .ok (.putfield 18, 3) := by decide +kernel
theorem dX0_init_28 : decode cX0_init 28 = .ok (.aload_n 0, 1) := by decide +kernel
theorem dX0_init_29 : decode cX0_init 29 = .ok (.bipush 12, 2) := by decide +kernel
theorem dX0_init_31 : decode cX0_init 31 = .ok (.bipush 12, 2) := by decide +kernel
theorem dX0_init_33 : decode cX0_init 33 = .ok (.multianewarray 22 2, 4) := by decide +kernel
theorem dX0_init_37 : decode cX0_init 37 = .ok (.putfield 24, 3) := by decide +kernel
theorem dX0_init_40 : decode cX0_init 40 = .ok (.return_, 1) := by decide +kernel
theorem dX0_contract_0 : decode cX0_contract 0 = .ok (.aload_n 0, 1) := by decide +kernel
theorem dX0_contract_1 : decode cX0_contract 1 = .ok (.aload_n 1, 1) := by decide +kernel
theorem dX0_contract_2 : decode cX0_contract 2 = .ok (.invokevirtual 27, 3) := by decide +kernel
theorem dX0_contract_5 : decode cX0_contract 5 = .ok (.aload_n 0, 1) := by decide +kernel
theorem dX0_contract_6 : decode cX0_contract 6 = .ok (.iload_n 2, 1) := by decide +kernel
theorem dX0_contract_7 : decode cX0_contract 7 = .ok (.invokevirtual 31, 3) := by decide +kernel
theorem dX0_contract_10 : decode cX0_contract 10 = .ok (.aload_n 0, 1) := by decide +kernel
theorem dX0_contract_11 : decode cX0_contract 11 = .ok (.iconst 0, 1) := by decide +kernel
theorem dX0_contract_12 : decode cX0_contract 12 = .ok (.putfield 35, 3) := by decide +kernel
theorem dX0_contract_15 : decode cX0_contract 15 = .ok (.aload_n 0, 1) := by decide +kernel
theorem dX0_contract_16 : decode cX0_contract 16 = .ok (.getfield 39, 3) := by decide +kernel
theorem dX0_contract_19 : decode cX0_contract 19 = .ok (.iconst 1, 1) := by decide +kernel
theorem dX0_contract_20 : decode cX0_contract 20 = .ok (.if_icmp .le 33, 3) := by decide +kernel
theorem dX0_contract_23 : decode cX0_contract 23 = .ok (.aload_n 0, 1) := by decide +kernel
theorem dX0_contract_24 : decode cX0_contract 24 = .ok (.getfield 35, 3) := by decide +kernel
theorem dX0_contract_27 : decode cX0_contract 27 = .ok (.bipush 12, 2) := by decide +kernel
theorem dX0_contract_29 : decode cX0_contract 29 = .ok (.if_icmp .ge 24, 3) := by decide +kernel
theorem dX0_contract_32 : decode cX0_contract 32 = .ok (.aload_n 0, 1) := by decide +kernel
theorem dX0_contract_33 : decode cX0_contract 33 = .ok (.dup, 1) := by decide +kernel
theorem dX0_contract_34 : decode cX0_contract 34 = .ok (.getfield 35, 3) := by decide +kernel
theorem dX0_contract_37 : decode cX0_contract 37 = .ok (.iconst 1, 1) := by decide +kernel
theorem dX0_contract_38 : decode cX0_contract 38 = .ok (.iadd, 1) := by decide +kernel
theorem dX0_contract_39 : decode cX0_contract 39 = .ok (.putfield 35, 3) := by decide +kernel
theorem dX0_contract_42 : decode cX0_contract 42 = .ok (.aload_n 0, 1) := by decide +kernel
theorem dX0_contract_43 : decode cX0_contract 43 = .ok (.invokevirtual 42, 3) := by decide +kernel
theorem dX0_contract_46 : decode cX0_contract 46 = .ok (.aload_n 0, 1) := by decide +kernel
theorem dX0_contract_47 : decode cX0_contract 47 = .ok (.invokevirtual 45, 3) := by decide +kernel
theorem dX0_contract_50 : decode cX0_contract 50 = .ok (.goto (-35), 3) := by decide +kernel
theorem dX0_contract_53 : decode cX0_contract 53 = .ok (.return_, 1) := by decide +kernel
theorem dX0_roundCount_0 : decode cX0_roundCount 0 = .ok (.aload_n 0, 1) := by decide +kernel
theorem dX0_roundCount_1 : decode cX0_roundCount 1 = .ok (.getfield 35, 3) := by decide +kernel
theorem dX0_roundCount_4 : decode cX0_roundCount 4 = .ok (.ireturn, 1) := by decide +kernel
theorem dX0_roundOf_0 : decode cX0_roundOf 0 = .ok (.aload_n 0, 1) := by decide +kernel
theorem dX0_roundOf_1 : decode cX0_roundOf 1 = .ok (.iload_n 1, 1) := by decide +kernel
theorem dX0_roundOf_2 : decode cX0_roundOf 2 = .ok (.invokevirtual 48, 3) := by decide +kernel
theorem dX0_roundOf_5 : decode cX0_roundOf 5 = .ok (.ifCond .eq 12, 3) := by decide +kernel
theorem dX0_roundOf_8 : decode cX0_roundOf 8 = .ok (.aload_n 0, 1) := by decide +kernel
theorem dX0_roundOf_9 : decode cX0_roundOf 9 = .ok (.getfield 18, 3) := by decide +kernel
theorem dX0_roundOf_12 : decode cX0_roundOf 12 = .ok (.iload_n 1, 1) := by decide +kernel
theorem dX0_roundOf_13 : decode cX0_roundOf 13 = .ok (.iaload, 1) := by decide +kernel
theorem dX0_roundOf_14 : decode cX0_roundOf 14 = .ok (.goto 5, 3) := by decide +kernel
theorem dX0_roundOf_17 : decode cX0_roundOf 17 = .ok (.bipush (-9), 2) := by decide +kernel
theorem dX0_roundOf_19 : decode cX0_roundOf 19 = .ok (.ireturn, 1) := by decide +kernel
theorem dX0_lastVertex_0 : decode cX0_lastVertex 0 = .ok (.iconst 0, 1) := by decide +kernel
theorem dX0_lastVertex_1 : decode cX0_lastVertex 1 = .ok (.istore_n 1, 1) := by decide +kernel
theorem dX0_lastVertex_2 : decode cX0_lastVertex 2 = .ok (.iload_n 1, 1) := by decide +kernel
theorem dX0_lastVertex_3 : decode cX0_lastVertex 3 = .ok (.aload_n 0, 1) := by decide +kernel
theorem dX0_lastVertex_4 : decode cX0_lastVertex 4 = .ok (.getfield 52, 3) := by decide +kernel
theorem dX0_lastVertex_7 : decode cX0_lastVertex 7 = .ok (.if_icmp .ge 20, 3) := by decide +kernel
theorem dX0_lastVertex_10 : decode cX0_lastVertex 10 = .ok (.aload_n 0, 1) := by decide +kernel
theorem dX0_lastVertex_11 : decode cX0_lastVertex 11 = .ok (.getfield 9, 3) := by decide +kernel
theorem dX0_lastVertex_14 : decode cX0_lastVertex 14 = .ok (.iload_n 1, 1) := by decide +kernel
theorem dX0_lastVertex_15 : decode cX0_lastVertex 15 = .ok (.baload, 1) := by decide +kernel
theorem dX0_lastVertex_16 : decode cX0_lastVertex 16 = .ok (.ifCond .eq 5, 3) := by decide +kernel
theorem dX0_lastVertex_19 : decode cX0_lastVertex 19 = .ok (.iload_n 1, 1) := by decide +kernel
theorem dX0_lastVertex_20 : decode cX0_lastVertex 20 = .ok (.ireturn, 1) := by decide +kernel
theorem dX0_lastVertex_21 : decode cX0_lastVertex 21 = .ok (.iinc 1 1, 3) := by decide +kernel
theorem dX0_lastVertex_24 : decode cX0_lastVertex 24 = .ok (.goto (-22), 3) := by decide +kernel
theorem dX0_lastVertex_27 : decode cX0_lastVertex 27 = .ok (.bipush (-9), 2) := by decide +kernel
theorem dX0_lastVertex_29 : decode cX0_lastVertex 29 = .ok (.ireturn, 1) := by decide +kernel
theorem dX0_isVertex_0 : decode cX0_isVertex 0 = .ok (.iload_n 1, 1) := by decide +kernel
theorem dX0_isVertex_1 : decode cX0_isVertex 1 = .ok (.ifCond .lt 15, 3) := by decide +kernel
theorem dX0_isVertex_4 : decode cX0_isVertex 4 = .ok (.iload_n 1, 1) := by decide +kernel
theorem dX0_isVertex_5 : decode cX0_isVertex 5 = .ok (.aload_n 0, 1) := by decide +kernel
theorem dX0_isVertex_6 : decode cX0_isVertex 6 = .ok (.getfield 52, 3) := by decide +kernel
theorem dX0_isVertex_9 : decode cX0_isVertex 9 = .ok (.if_icmp .ge 7, 3) := by decide +kernel
theorem dX0_isVertex_12 : decode cX0_isVertex 12 = .ok (.iconst 1, 1) := by decide +kernel
theorem dX0_isVertex_13 : decode cX0_isVertex 13 = .ok (.goto 4, 3) := by decide +kernel
theorem dX0_isVertex_16 : decode cX0_isVertex 16 = .ok (.iconst 0, 1) := by decide +kernel
theorem dX0_isVertex_17 : decode cX0_isVertex 17 = .ok (.ireturn, 1) := by decide +kernel
theorem dX0_copyEdges_0 : decode cX0_copyEdges 0 = .ok (.aload_n 0, 1) := by decide +kernel
theorem dX0_copyEdges_1 : decode cX0_copyEdges 1 = .ok (.aload_n 1, 1) := by decide +kernel
theorem dX0_copyEdges_2 : decode cX0_copyEdges 2 = .ok (.invokevirtual 55, 3) := by decide +kernel
theorem dX0_copyEdges_5 : decode cX0_copyEdges 5 = .ok (.putfield 52, 3) := by decide +kernel
theorem dX0_copyEdges_8 : decode cX0_copyEdges 8 = .ok (.iconst 0, 1) := by decide +kernel
theorem dX0_copyEdges_9 : decode cX0_copyEdges 9 = .ok (.istore_n 2, 1) := by decide +kernel
theorem dX0_copyEdges_10 : decode cX0_copyEdges 10 = .ok (.iload_n 2, 1) := by decide +kernel
theorem dX0_copyEdges_11 : decode cX0_copyEdges 11 = .ok (.aload_n 0, 1) := by decide +kernel
theorem dX0_copyEdges_12 : decode cX0_copyEdges 12 = .ok (.getfield 52, 3) := by decide +kernel
theorem dX0_copyEdges_15 : decode cX0_copyEdges 15 = .ok (.if_icmp .ge 47, 3) := by decide +kernel
theorem dX0_copyEdges_18 : decode cX0_copyEdges 18 = .ok (.iconst 0, 1) := by decide +kernel
theorem dX0_copyEdges_19 : decode cX0_copyEdges 19 = .ok (.istore_n 3, 1) := by decide +kernel
theorem dX0_copyEdges_20 : decode cX0_copyEdges 20 = .ok (.iload_n 3, 1) := by decide +kernel
theorem dX0_copyEdges_21 : decode cX0_copyEdges 21 = .ok (.aload_n 0, 1) := by decide +kernel
theorem dX0_copyEdges_22 : decode cX0_copyEdges 22 = .ok (.getfield 52, 3) := by decide +kernel
theorem dX0_copyEdges_25 : decode cX0_copyEdges 25 = .ok (.if_icmp .ge 31, 3) := by decide +kernel
theorem dX0_copyEdges_28 : decode cX0_copyEdges 28 = .ok (.aload_n 0, 1) := by decide +kernel
theorem dX0_copyEdges_29 : decode cX0_copyEdges 29 = .ok (.getfield 24, 3) := by decide +kernel
theorem dX0_copyEdges_32 : decode cX0_copyEdges 32 = .ok (.iload_n 2, 1) := by decide +kernel
theorem dX0_copyEdges_33 : decode cX0_copyEdges 33 = .ok (.aaload, 1) := by decide +kernel
theorem dX0_copyEdges_34 : decode cX0_copyEdges 34 = .ok (.iload_n 3, 1) := by decide +kernel
theorem dX0_copyEdges_35 : decode cX0_copyEdges 35 = .ok (.aload_n 1, 1) := by decide +kernel
theorem dX0_copyEdges_36 : decode cX0_copyEdges 36 = .ok (.iload_n 2, 1) := by decide +kernel
theorem dX0_copyEdges_37 : decode cX0_copyEdges 37 = .ok (.iload_n 3, 1) := by decide +kernel
theorem dX0_copyEdges_38 : decode cX0_copyEdges 38 = .ok (.invokevirtual 61, 3) := by decide +kernel
theorem dX0_copyEdges_41 : decode cX0_copyEdges 41 = .ok (.ifCond .ne 7, 3) := by decide +kernel
theorem dX0_copyEdges_44 : decode cX0_copyEdges 44 = .ok (.iconst 0, 1) := by decide +kernel
theorem dX0_copyEdges_45 : decode cX0_copyEdges 45 = .ok (.goto 4, 3) := by decide +kernel
theorem dX0_copyEdges_48 : decode cX0_copyEdges 48 = .ok (.iconst 1, 1) := by decide +kernel
theorem dX0_copyEdges_49 : decode cX0_copyEdges 49 = .ok (.iastore, 1) := by decide +kernel
theorem dX0_copyEdges_50 : decode cX0_copyEdges 50 = .ok (.iinc 3 1, 3) := by decide +kernel
theorem dX0_copyEdges_53 : decode cX0_copyEdges 53 = .ok (.goto (-33), 3) := by decide +kernel
theorem dX0_copyEdges_56 : decode cX0_copyEdges 56 = .ok (.iinc 2 1, 3) := by decide +kernel
theorem dX0_copyEdges_59 : decode cX0_copyEdges 59 = .ok (.goto (-49), 3) := by decide +kernel
theorem dX0_copyEdges_62 : decode cX0_copyEdges 62 = .ok (.return_, 1) := by decide +kernel
theorem dX0_gatherTree_0 : decode cX0_gatherTree 0 = .ok (.iconst 0, 1) := by decide +kernel
theorem dX0_gatherTree_1 : decode cX0_gatherTree 1 = .ok (.istore_n 2, 1) := by decide +kernel
theorem dX0_gatherTree_2 : decode cX0_gatherTree 2 = .ok (.iload_n 2, 1) := by decide +kernel
theorem dX0_gatherTree_3 : decode cX0_gatherTree 3 = .ok (.bipush 12, 2) := by decide +kernel
theorem dX0_gatherTree_5 : decode cX0_gatherTree 5 = .ok (.if_icmp .ge 24, 3) := by decide +kernel
theorem dX0_gatherTree_8 : decode cX0_gatherTree 8 = .ok (.aload_n 0, 1) := by decide +kernel
theorem dX0_gatherTree_9 : decode cX0_gatherTree 9 = .ok (.getfield 9, 3) := by decide +kernel
theorem dX0_gatherTree_12 : decode cX0_gatherTree 12 = .ok (.iload_n 2, 1) := by decide +kernel
theorem dX0_gatherTree_13 : decode cX0_gatherTree 13 = .ok (.iconst 0, 1) := by decide +kernel
theorem dX0_gatherTree_14 : decode cX0_gatherTree 14 = .ok (.bastore, 1) := by decide +kernel
theorem dX0_gatherTree_15 : decode cX0_gatherTree 15 = .ok (.aload_n 0, 1) := by decide +kernel
theorem dX0_gatherTree_16 : decode cX0_gatherTree 16 = .ok (.getfield 18, 3) := by decide +kernel
theorem dX0_gatherTree_19 : decode cX0_gatherTree 19 = .ok (.iload_n 2, 1) := by decide +kernel
theorem dX0_gatherTree_20 : decode cX0_gatherTree 20 = .ok (.bipush (-9), 2) := by decide +kernel
theorem dX0_gatherTree_22 : decode cX0_gatherTree 22 = .ok (.iastore, 1) := by decide +kernel
theorem dX0_gatherTree_23 : decode cX0_gatherTree 23 = .ok (.iinc 2 1, 3) := by decide +kernel
theorem dX0_gatherTree_26 : decode cX0_gatherTree 26 = .ok (.goto (-24), 3) := by decide +kernel
theorem dX0_gatherTree_29 : decode cX0_gatherTree 29 = .ok (.aload_n 0, 1) := by decide +kernel
theorem dX0_gatherTree_30 : decode cX0_gatherTree 30 = .ok (.iconst 0, 1) := by decide +kernel
theorem dX0_gatherTree_31 : decode cX0_gatherTree 31 = .ok (.putfield 39, 3) := by decide +kernel
theorem dX0_gatherTree_34 : decode cX0_gatherTree 34 = .ok (.aload_n 0, 1) := by decide +kernel
theorem dX0_gatherTree_35 : decode cX0_gatherTree 35 = .ok (.iload_n 1, 1) := by decide +kernel
theorem dX0_gatherTree_36 : decode cX0_gatherTree 36 = .ok (.invokevirtual 48, 3) := by decide +kernel
theorem dX0_gatherTree_39 : decode cX0_gatherTree 39 = .ok (.ifCond .ne 4, 3) := by decide +kernel
theorem dX0_gatherTree_42 : decode cX0_gatherTree 42 = .ok (.return_, 1) := by decide +kernel
theorem dX0_gatherTree_43 : decode cX0_gatherTree 43 = .ok (.aload_n 0, 1) := by decide +kernel
theorem dX0_gatherTree_44 : decode cX0_gatherTree 44 = .ok (.getfield 9, 3) := by decide +kernel
theorem dX0_gatherTree_47 : decode cX0_gatherTree 47 = .ok (.iload_n 1, 1) := by decide +kernel
theorem dX0_gatherTree_48 : decode cX0_gatherTree 48 = .ok (.iconst 1, 1) := by decide +kernel
theorem dX0_gatherTree_49 : decode cX0_gatherTree 49 = .ok (.bastore, 1) := by decide +kernel
theorem dX0_gatherTree_50 : decode cX0_gatherTree 50 = .ok (.aload_n 0, 1) := by decide +kernel
theorem dX0_gatherTree_51 : decode cX0_gatherTree 51 = .ok (.iconst 1, 1) := by decide +kernel
theorem dX0_gatherTree_52 : decode cX0_gatherTree 52 = .ok (.putfield 39, 3) := by decide +kernel
theorem dX0_gatherTree_55 : decode cX0_gatherTree 55 = .ok (.iconst 0, 1) := by decide +kernel
theorem dX0_gatherTree_56 : decode cX0_gatherTree 56 = .ok (.istore_n 2, 1) := by decide +kernel
theorem dX0_gatherTree_57 : decode cX0_gatherTree 57 = .ok (.iload_n 2, 1) := by decide +kernel
theorem dX0_gatherTree_58 : decode cX0_gatherTree 58 = .ok (.aload_n 0, 1) := by decide +kernel
theorem dX0_gatherTree_59 : decode cX0_gatherTree 59 = .ok (.getfield 52, 3) := by decide +kernel
theorem dX0_gatherTree_62 : decode cX0_gatherTree 62 = .ok (.if_icmp .ge 13, 3) := by decide +kernel
theorem dX0_gatherTree_65 : decode cX0_gatherTree 65 = .ok (.aload_n 0, 1) := by decide +kernel
theorem dX0_gatherTree_66 : decode cX0_gatherTree 66 = .ok (.invokevirtual 65, 3) := by decide +kernel
theorem dX0_gatherTree_69 : decode cX0_gatherTree 69 = .ok (.iinc 2 1, 3) := by decide +kernel
theorem dX0_gatherTree_72 : decode cX0_gatherTree 72 = .ok (.goto (-15), 3) := by decide +kernel
theorem dX0_gatherTree_75 : decode cX0_gatherTree 75 = .ok (.return_, 1) := by decide +kernel
theorem dX0_gatherNeighbours_0 : decode cX0_gatherNeighbours 0 = .ok (.iconst 0, 1) := by decide +kernel
theorem dX0_gatherNeighbours_1 : decode cX0_gatherNeighbours 1 = .ok (.istore_n 1, 1) := by decide +kernel
theorem dX0_gatherNeighbours_2 : decode cX0_gatherNeighbours 2 = .ok (.iload_n 1, 1) := by decide +kernel
theorem dX0_gatherNeighbours_3 : decode cX0_gatherNeighbours 3 = .ok (.aload_n 0, 1) := by decide +kernel
theorem dX0_gatherNeighbours_4 : decode cX0_gatherNeighbours 4 = .ok (.getfield 52, 3) := by decide +kernel
theorem dX0_gatherNeighbours_7 : decode cX0_gatherNeighbours 7 = .ok (.if_icmp .ge 71, 3) := by decide +kernel
theorem dX0_gatherNeighbours_10 : decode cX0_gatherNeighbours 10 = .ok (.iconst 0, 1) := by decide +kernel
theorem dX0_gatherNeighbours_11 : decode cX0_gatherNeighbours 11 = .ok (.istore_n 2, 1) := by decide +kernel
theorem dX0_gatherNeighbours_12 : decode cX0_gatherNeighbours 12 = .ok (.iload_n 2, 1) := by decide +kernel
theorem dX0_gatherNeighbours_13 : decode cX0_gatherNeighbours 13 = .ok (.aload_n 0, 1) := by decide +kernel
theorem dX0_gatherNeighbours_14 : decode cX0_gatherNeighbours 14 = .ok (.getfield 52, 3) := by decide +kernel
theorem dX0_gatherNeighbours_17 : decode cX0_gatherNeighbours 17 = .ok (.if_icmp .ge 55, 3) := by decide +kernel
theorem dX0_gatherNeighbours_20 : decode cX0_gatherNeighbours 20 = .ok (.aload_n 0, 1) := by decide +kernel
theorem dX0_gatherNeighbours_21 : decode cX0_gatherNeighbours 21 = .ok (.getfield 9, 3) := by decide +kernel
theorem dX0_gatherNeighbours_24 : decode cX0_gatherNeighbours 24 = .ok (.iload_n 1, 1) := by decide +kernel
theorem dX0_gatherNeighbours_25 : decode cX0_gatherNeighbours 25 = .ok (.baload, 1) := by decide +kernel
theorem dX0_gatherNeighbours_26 : decode cX0_gatherNeighbours 26 = .ok (.ifCond .eq 40, 3) := by decide +kernel
theorem dX0_gatherNeighbours_29 : decode cX0_gatherNeighbours 29 = .ok (.aload_n 0, 1) := by decide +kernel
theorem dX0_gatherNeighbours_30 : decode cX0_gatherNeighbours 30 = .ok (.getfield 9, 3) := by decide +kernel
theorem dX0_gatherNeighbours_33 : decode cX0_gatherNeighbours 33 = .ok (.iload_n 2, 1) := by decide +kernel
theorem dX0_gatherNeighbours_34 : decode cX0_gatherNeighbours 34 = .ok (.baload, 1) := by decide +kernel
theorem dX0_gatherNeighbours_35 : decode cX0_gatherNeighbours 35 = .ok (.ifCond .ne 31, 3) := by decide +kernel
theorem dX0_gatherNeighbours_38 : decode cX0_gatherNeighbours 38 = .ok (.aload_n 0, 1) := by decide +kernel
theorem dX0_gatherNeighbours_39 : decode cX0_gatherNeighbours 39 = .ok (.getfield 24, 3) := by decide +kernel
theorem dX0_gatherNeighbours_42 : decode cX0_gatherNeighbours 42 = .ok (.iload_n 1, 1) := by decide +kernel
theorem dX0_gatherNeighbours_43 : decode cX0_gatherNeighbours 43 = .ok (.aaload, 1) := by decide +kernel
theorem dX0_gatherNeighbours_44 : decode cX0_gatherNeighbours 44 = .ok (.iload_n 2, 1) := by decide +kernel
theorem dX0_gatherNeighbours_45 : decode cX0_gatherNeighbours 45 = .ok (.iaload, 1) := by decide +kernel
theorem dX0_gatherNeighbours_46 : decode cX0_gatherNeighbours 46 = .ok (.ifCond .eq 20, 3) := by decide +kernel
theorem dX0_gatherNeighbours_49 : decode cX0_gatherNeighbours 49 = .ok (.aload_n 0, 1) := by decide +kernel
theorem dX0_gatherNeighbours_50 : decode cX0_gatherNeighbours 50 = .ok (.getfield 9, 3) := by decide +kernel
theorem dX0_gatherNeighbours_53 : decode cX0_gatherNeighbours 53 = .ok (.iload_n 2, 1) := by decide +kernel
theorem dX0_gatherNeighbours_54 : decode cX0_gatherNeighbours 54 = .ok (.iconst 1, 1) := by decide +kernel
theorem dX0_gatherNeighbours_55 : decode cX0_gatherNeighbours 55 = .ok (.bastore, 1) := by decide +kernel
theorem dX0_gatherNeighbours_56 : decode cX0_gatherNeighbours 56 = .ok (.aload_n 0, 1) := by decide +kernel
theorem dX0_gatherNeighbours_57 : decode cX0_gatherNeighbours 57 = .ok (.dup, 1) := by decide +kernel
theorem dX0_gatherNeighbours_58 : decode cX0_gatherNeighbours 58 = .ok (.getfield 39, 3) := by decide +kernel
theorem dX0_gatherNeighbours_61 : decode cX0_gatherNeighbours 61 = .ok (.iconst 1, 1) := by decide +kernel
theorem dX0_gatherNeighbours_62 : decode cX0_gatherNeighbours 62 = .ok (.iadd, 1) := by decide +kernel
theorem dX0_gatherNeighbours_63 : decode cX0_gatherNeighbours 63 = .ok (.putfield 39, 3) := by decide +kernel
theorem dX0_gatherNeighbours_66 : decode cX0_gatherNeighbours 66 = .ok (.iinc 2 1, 3) := by decide +kernel
theorem dX0_gatherNeighbours_69 : decode cX0_gatherNeighbours 69 = .ok (.goto (-57), 3) := by decide +kernel
theorem dX0_gatherNeighbours_72 : decode cX0_gatherNeighbours 72 = .ok (.iinc 1 1, 3) := by decide +kernel
theorem dX0_gatherNeighbours_75 : decode cX0_gatherNeighbours 75 = .ok (.goto (-73), 3) := by decide +kernel
theorem dX0_gatherNeighbours_78 : decode cX0_gatherNeighbours 78 = .ok (.return_, 1) := by decide +kernel
theorem dX0_rake_0 : decode cX0_rake 0 = .ok (.aload_n 0, 1) := by decide +kernel
theorem dX0_rake_1 : decode cX0_rake 1 = .ok (.getfield 39, 3) := by decide +kernel
theorem dX0_rake_4 : decode cX0_rake 4 = .ok (.iconst 2, 1) := by decide +kernel
theorem dX0_rake_5 : decode cX0_rake 5 = .ok (.if_icmp .ne 8, 3) := by decide +kernel
theorem dX0_rake_8 : decode cX0_rake 8 = .ok (.aload_n 0, 1) := by decide +kernel
theorem dX0_rake_9 : decode cX0_rake 9 = .ok (.invokevirtual 68, 3) := by decide +kernel
theorem dX0_rake_12 : decode cX0_rake 12 = .ok (.return_, 1) := by decide +kernel
theorem dX0_rake_13 : decode cX0_rake 13 = .ok (.iconst 0, 1) := by decide +kernel
theorem dX0_rake_14 : decode cX0_rake 14 = .ok (.istore_n 1, 1) := by decide +kernel
theorem dX0_rake_15 : decode cX0_rake 15 = .ok (.iload_n 1, 1) := by decide +kernel
theorem dX0_rake_16 : decode cX0_rake 16 = .ok (.aload_n 0, 1) := by decide +kernel
theorem dX0_rake_17 : decode cX0_rake 17 = .ok (.getfield 52, 3) := by decide +kernel
theorem dX0_rake_20 : decode cX0_rake 20 = .ok (.if_icmp .ge 38, 3) := by decide +kernel
theorem dX0_rake_23 : decode cX0_rake 23 = .ok (.aload_n 0, 1) := by decide +kernel
theorem dX0_rake_24 : decode cX0_rake 24 = .ok (.getfield 15, 3) := by decide +kernel
theorem dX0_rake_27 : decode cX0_rake 27 = .ok (.iload_n 1, 1) := by decide +kernel
theorem dX0_rake_28 : decode cX0_rake 28 = .ok (.aload_n 0, 1) := by decide +kernel
theorem dX0_rake_29 : decode cX0_rake 29 = .ok (.getfield 9, 3) := by decide +kernel
theorem dX0_rake_32 : decode cX0_rake 32 = .ok (.iload_n 1, 1) := by decide +kernel
theorem dX0_rake_33 : decode cX0_rake 33 = .ok (.baload, 1) := by decide +kernel
theorem dX0_rake_34 : decode cX0_rake 34 = .ok (.ifCond .eq 16, 3) := by decide +kernel
theorem dX0_rake_37 : decode cX0_rake 37 = .ok (.aload_n 0, 1) := by decide +kernel
theorem dX0_rake_38 : decode cX0_rake 38 = .ok (.iload_n 1, 1) := by decide +kernel
theorem dX0_rake_39 : decode cX0_rake 39 = .ok (.invokevirtual 71, 3) := by decide +kernel
theorem dX0_rake_42 : decode cX0_rake 42 = .ok (.iconst 1, 1) := by decide +kernel
theorem dX0_rake_43 : decode cX0_rake 43 = .ok (.if_icmp .ne 7, 3) := by decide +kernel
theorem dX0_rake_46 : decode cX0_rake 46 = .ok (.iconst 1, 1) := by decide +kernel
theorem dX0_rake_47 : decode cX0_rake 47 = .ok (.goto 4, 3) := by decide +kernel
theorem dX0_rake_50 : decode cX0_rake 50 = .ok (.iconst 0, 1) := by decide +kernel
theorem dX0_rake_51 : decode cX0_rake 51 = .ok (.bastore, 1) := by decide +kernel
theorem dX0_rake_52 : decode cX0_rake 52 = .ok (.iinc 1 1, 3) := by decide +kernel
theorem dX0_rake_55 : decode cX0_rake 55 = .ok (.goto (-40), 3) := by decide +kernel
theorem dX0_rake_58 : decode cX0_rake 58 = .ok (.iconst 0, 1) := by decide +kernel
theorem dX0_rake_59 : decode cX0_rake 59 = .ok (.istore_n 1, 1) := by decide +kernel
theorem dX0_rake_60 : decode cX0_rake 60 = .ok (.iload_n 1, 1) := by decide +kernel
theorem dX0_rake_61 : decode cX0_rake 61 = .ok (.aload_n 0, 1) := by decide +kernel
theorem dX0_rake_62 : decode cX0_rake 62 = .ok (.getfield 52, 3) := by decide +kernel
theorem dX0_rake_65 : decode cX0_rake 65 = .ok (.if_icmp .ge 23, 3) := by decide +kernel
theorem dX0_rake_68 : decode cX0_rake 68 = .ok (.aload_n 0, 1) := by decide +kernel
theorem dX0_rake_69 : decode cX0_rake 69 = .ok (.getfield 15, 3) := by decide +kernel
theorem dX0_rake_72 : decode cX0_rake 72 = .ok (.iload_n 1, 1) := by decide +kernel
theorem dX0_rake_73 : decode cX0_rake 73 = .ok (.baload, 1) := by decide +kernel
theorem dX0_rake_74 : decode cX0_rake 74 = .ok (.ifCond .eq 8, 3) := by decide +kernel
theorem dX0_rake_77 : decode cX0_rake 77 = .ok (.aload_n 0, 1) := by decide +kernel
theorem dX0_rake_78 : decode cX0_rake 78 = .ok (.iload_n 1, 1) := by decide +kernel
theorem dX0_rake_79 : decode cX0_rake 79 = .ok (.invokevirtual 75, 3) := by decide +kernel
theorem dX0_rake_82 : decode cX0_rake 82 = .ok (.iinc 1 1, 3) := by decide +kernel
theorem dX0_rake_85 : decode cX0_rake 85 = .ok (.goto (-25), 3) := by decide +kernel
theorem dX0_rake_88 : decode cX0_rake 88 = .ok (.return_, 1) := by decide +kernel
theorem dX0_removeGreatest_0 : decode cX0_removeGreatest 0 = .ok (.aload_n 0, 1) := by decide +kernel
theorem dX0_removeGreatest_1 : decode cX0_removeGreatest 1 = .ok (.getfield 52, 3) := by decide +kernel
theorem dX0_removeGreatest_4 : decode cX0_removeGreatest 4 = .ok (.iconst 1, 1) := by decide +kernel
theorem dX0_removeGreatest_5 : decode cX0_removeGreatest 5 = .ok (.isub, 1) := by decide +kernel
theorem dX0_removeGreatest_6 : decode cX0_removeGreatest 6 = .ok (.istore_n 1, 1) := by decide +kernel
theorem dX0_removeGreatest_7 : decode cX0_removeGreatest 7 = .ok (.iload_n 1, 1) := by decide +kernel
theorem dX0_removeGreatest_8 : decode cX0_removeGreatest 8 = .ok (.ifCond .lt 24, 3) := by decide +kernel
theorem dX0_removeGreatest_11 : decode cX0_removeGreatest 11 = .ok (.aload_n 0, 1) := by decide +kernel
theorem dX0_removeGreatest_12 : decode cX0_removeGreatest 12 = .ok (.getfield 9, 3) := by decide +kernel
theorem dX0_removeGreatest_15 : decode cX0_removeGreatest 15 = .ok (.iload_n 1, 1) := by decide +kernel
theorem dX0_removeGreatest_16 : decode cX0_removeGreatest 16 = .ok (.baload, 1) := by decide +kernel
theorem dX0_removeGreatest_17 : decode cX0_removeGreatest 17 = .ok (.ifCond .eq 9, 3) := by decide +kernel
theorem dX0_removeGreatest_20 : decode cX0_removeGreatest 20 = .ok (.aload_n 0, 1) := by decide +kernel
theorem dX0_removeGreatest_21 : decode cX0_removeGreatest 21 = .ok (.iload_n 1, 1) := by decide +kernel
theorem dX0_removeGreatest_22 : decode cX0_removeGreatest 22 = .ok (.invokevirtual 75, 3) := by decide +kernel
theorem dX0_removeGreatest_25 : decode cX0_removeGreatest 25 = .ok (.return_, 1) := by decide +kernel
theorem dX0_removeGreatest_26 : decode cX0_removeGreatest 26 = .ok (.iinc 1 (-1), 3) := by decide +kernel
theorem dX0_removeGreatest_29 : decode cX0_removeGreatest 29 = .ok (.goto (-22), 3) := by decide +kernel
theorem dX0_removeGreatest_32 : decode cX0_removeGreatest 32 = .ok (.return_, 1) := by decide +kernel
theorem dX0_compress_0 : decode cX0_compress 0 = .ok (.aload_n 0, 1) := by decide +kernel
theorem dX0_compress_1 : decode cX0_compress 1 = .ok (.invokevirtual 78, 3) := by decide +kernel
theorem dX0_compress_4 : decode cX0_compress 4 = .ok (.iconst 0, 1) := by decide +kernel
theorem dX0_compress_5 : decode cX0_compress 5 = .ok (.istore_n 1, 1) := by decide +kernel
theorem dX0_compress_6 : decode cX0_compress 6 = .ok (.iload_n 1, 1) := by decide +kernel
theorem dX0_compress_7 : decode cX0_compress 7 = .ok (.aload_n 0, 1) := by decide +kernel
theorem dX0_compress_8 : decode cX0_compress 8 = .ok (.getfield 52, 3) := by decide +kernel
theorem dX0_compress_11 : decode cX0_compress 11 = .ok (.if_icmp .ge 32, 3) := by decide +kernel
theorem dX0_compress_14 : decode cX0_compress 14 = .ok (.aload_n 0, 1) := by decide +kernel
theorem dX0_compress_15 : decode cX0_compress 15 = .ok (.getfield 9, 3) := by decide +kernel
theorem dX0_compress_18 : decode cX0_compress 18 = .ok (.iload_n 1, 1) := by decide +kernel
theorem dX0_compress_19 : decode cX0_compress 19 = .ok (.baload, 1) := by decide +kernel
theorem dX0_compress_20 : decode cX0_compress 20 = .ok (.ifCond .eq 17, 3) := by decide +kernel
theorem dX0_compress_23 : decode cX0_compress 23 = .ok (.aload_n 0, 1) := by decide +kernel
theorem dX0_compress_24 : decode cX0_compress 24 = .ok (.iload_n 1, 1) := by decide +kernel
theorem dX0_compress_25 : decode cX0_compress 25 = .ok (.invokevirtual 71, 3) := by decide +kernel
theorem dX0_compress_28 : decode cX0_compress 28 = .ok (.iconst 2, 1) := by decide +kernel
theorem dX0_compress_29 : decode cX0_compress 29 = .ok (.if_icmp .ne 8, 3) := by decide +kernel
theorem dX0_compress_32 : decode cX0_compress 32 = .ok (.aload_n 0, 1) := by decide +kernel
theorem dX0_compress_33 : decode cX0_compress 33 = .ok (.iload_n 1, 1) := by decide +kernel
theorem dX0_compress_34 : decode cX0_compress 34 = .ok (.invokevirtual 81, 3) := by decide +kernel
theorem dX0_compress_37 : decode cX0_compress 37 = .ok (.iinc 1 1, 3) := by decide +kernel
theorem dX0_compress_40 : decode cX0_compress 40 = .ok (.goto (-34), 3) := by decide +kernel
theorem dX0_compress_43 : decode cX0_compress 43 = .ok (.return_, 1) := by decide +kernel
theorem dX0_makeEdgesOld_0 : decode cX0_makeEdgesOld 0 = .ok (.iconst 0, 1) := by decide +kernel
theorem dX0_makeEdgesOld_1 : decode cX0_makeEdgesOld 1 = .ok (.istore_n 1, 1) := by decide +kernel
theorem dX0_makeEdgesOld_2 : decode cX0_makeEdgesOld 2 = .ok (.iload_n 1, 1) := by decide +kernel
theorem dX0_makeEdgesOld_3 : decode cX0_makeEdgesOld 3 = .ok (.aload_n 0, 1) := by decide +kernel
theorem dX0_makeEdgesOld_4 : decode cX0_makeEdgesOld 4 = .ok (.getfield 52, 3) := by decide +kernel
theorem dX0_makeEdgesOld_7 : decode cX0_makeEdgesOld 7 = .ok (.if_icmp .ge 45, 3) := by decide +kernel
theorem dX0_makeEdgesOld_10 : decode cX0_makeEdgesOld 10 = .ok (.iconst 0, 1) := by decide +kernel
theorem dX0_makeEdgesOld_11 : decode cX0_makeEdgesOld 11 = .ok (.istore_n 2, 1) := by decide +kernel
theorem dX0_makeEdgesOld_12 : decode cX0_makeEdgesOld 12 = .ok (.iload_n 2, 1) := by decide +kernel
theorem dX0_makeEdgesOld_13 : decode cX0_makeEdgesOld 13 = .ok (.aload_n 0, 1) := by decide +kernel
theorem dX0_makeEdgesOld_14 : decode cX0_makeEdgesOld 14 = .ok (.getfield 52, 3) := by decide +kernel
theorem dX0_makeEdgesOld_17 : decode cX0_makeEdgesOld 17 = .ok (.if_icmp .ge 29, 3) := by decide +kernel
theorem dX0_makeEdgesOld_20 : decode cX0_makeEdgesOld 20 = .ok (.aload_n 0, 1) := by decide +kernel
theorem dX0_makeEdgesOld_21 : decode cX0_makeEdgesOld 21 = .ok (.getfield 24, 3) := by decide +kernel
theorem dX0_makeEdgesOld_24 : decode cX0_makeEdgesOld 24 = .ok (.iload_n 1, 1) := by decide +kernel
theorem dX0_makeEdgesOld_25 : decode cX0_makeEdgesOld 25 = .ok (.aaload, 1) := by decide +kernel
theorem dX0_makeEdgesOld_26 : decode cX0_makeEdgesOld 26 = .ok (.iload_n 2, 1) := by decide +kernel
theorem dX0_makeEdgesOld_27 : decode cX0_makeEdgesOld 27 = .ok (.aload_n 0, 1) := by decide +kernel
theorem dX0_makeEdgesOld_28 : decode cX0_makeEdgesOld 28 = .ok (.getfield 24, 3) := by decide +kernel
theorem dX0_makeEdgesOld_31 : decode cX0_makeEdgesOld 31 = .ok (.iload_n 1, 1) := by decide +kernel
theorem dX0_makeEdgesOld_32 : decode cX0_makeEdgesOld 32 = .ok (.aaload, 1) := by decide +kernel
theorem dX0_makeEdgesOld_33 : decode cX0_makeEdgesOld 33 = .ok (.iload_n 2, 1) := by decide +kernel
theorem dX0_makeEdgesOld_34 : decode cX0_makeEdgesOld 34 = .ok (.iaload, 1) := by decide +kernel
theorem dX0_makeEdgesOld_35 : decode cX0_makeEdgesOld 35 = .ok (.iconst 1, 1) := by decide +kernel
theorem dX0_makeEdgesOld_36 : decode cX0_makeEdgesOld 36 = .ok (.invokestatic 84, 3) := by decide +kernel
theorem dX0_makeEdgesOld_39 : decode cX0_makeEdgesOld 39 = .ok (.iastore, 1) := by decide +kernel
theorem dX0_makeEdgesOld_40 : decode cX0_makeEdgesOld 40 = .ok (.iinc 2 1, 3) := by decide +kernel
theorem dX0_makeEdgesOld_43 : decode cX0_makeEdgesOld 43 = .ok (.goto (-31), 3) := by decide +kernel
theorem dX0_makeEdgesOld_46 : decode cX0_makeEdgesOld 46 = .ok (.iinc 1 1, 3) := by decide +kernel
theorem dX0_makeEdgesOld_49 : decode cX0_makeEdgesOld 49 = .ok (.goto (-47), 3) := by decide +kernel
theorem dX0_makeEdgesOld_52 : decode cX0_makeEdgesOld 52 = .ok (.return_, 1) := by decide +kernel
theorem dX0_bypass_0 : decode cX0_bypass 0 = .ok (.aload_n 0, 1) := by decide +kernel
theorem dX0_bypass_1 : decode cX0_bypass 1 = .ok (.iload_n 1, 1) := by decide +kernel
theorem dX0_bypass_2 : decode cX0_bypass 2 = .ok (.iconst (-1), 1) := by decide +kernel
theorem dX0_bypass_3 : decode cX0_bypass 3 = .ok (.invokevirtual 89, 3) := by decide +kernel
theorem dX0_bypass_6 : decode cX0_bypass 6 = .ok (.istore_n 2, 1) := by decide +kernel
theorem dX0_bypass_7 : decode cX0_bypass 7 = .ok (.aload_n 0, 1) := by decide +kernel
theorem dX0_bypass_8 : decode cX0_bypass 8 = .ok (.iload_n 1, 1) := by decide +kernel
theorem dX0_bypass_9 : decode cX0_bypass 9 = .ok (.iload_n 2, 1) := by decide +kernel
theorem dX0_bypass_10 : decode cX0_bypass 10 = .ok (.invokevirtual 89, 3) := by decide +kernel
theorem dX0_bypass_13 : decode cX0_bypass 13 = .ok (.istore_n 3, 1) := by decide +kernel
theorem dX0_bypass_14 : decode cX0_bypass 14 = .ok (.aload_n 0, 1) := by decide +kernel
theorem dX0_bypass_15 : decode cX0_bypass 15 = .ok (.iload_n 2, 1) := by decide +kernel
theorem dX0_bypass_16 : decode cX0_bypass 16 = .ok (.invokevirtual 48, 3) := by decide +kernel
theorem dX0_bypass_19 : decode cX0_bypass 19 = .ok (.ifCond .eq 11, 3) := by decide +kernel
theorem dX0_bypass_22 : decode cX0_bypass 22 = .ok (.aload_n 0, 1) := by decide +kernel
theorem dX0_bypass_23 : decode cX0_bypass 23 = .ok (.iload_n 3, 1) := by decide +kernel
theorem dX0_bypass_24 : decode cX0_bypass 24 = .ok (.invokevirtual 48, 3) := by decide +kernel
theorem dX0_bypass_27 : decode cX0_bypass 27 = .ok (.ifCond .ne 4, 3) := by decide +kernel
theorem dX0_bypass_30 : decode cX0_bypass 30 = .ok (.return_, 1) := by decide +kernel
theorem dX0_bypass_31 : decode cX0_bypass 31 = .ok (.aload_n 0, 1) := by decide +kernel
theorem dX0_bypass_32 : decode cX0_bypass 32 = .ok (.getfield 24, 3) := by decide +kernel
theorem dX0_bypass_35 : decode cX0_bypass 35 = .ok (.iload_n 1, 1) := by decide +kernel
theorem dX0_bypass_36 : decode cX0_bypass 36 = .ok (.aaload, 1) := by decide +kernel
theorem dX0_bypass_37 : decode cX0_bypass 37 = .ok (.iload_n 2, 1) := by decide +kernel
theorem dX0_bypass_38 : decode cX0_bypass 38 = .ok (.iaload, 1) := by decide +kernel
theorem dX0_bypass_39 : decode cX0_bypass 39 = .ok (.iconst 2, 1) := by decide +kernel
theorem dX0_bypass_40 : decode cX0_bypass 40 = .ok (.if_icmp .eq 15, 3) := by decide +kernel
theorem dX0_bypass_43 : decode cX0_bypass 43 = .ok (.aload_n 0, 1) := by decide +kernel
theorem dX0_bypass_44 : decode cX0_bypass 44 = .ok (.getfield 24, 3) := by decide +kernel
theorem dX0_bypass_47 : decode cX0_bypass 47 = .ok (.iload_n 1, 1) := by decide +kernel
theorem dX0_bypass_48 : decode cX0_bypass 48 = .ok (.aaload, 1) := by decide +kernel
theorem dX0_bypass_49 : decode cX0_bypass 49 = .ok (.iload_n 3, 1) := by decide +kernel
theorem dX0_bypass_50 : decode cX0_bypass 50 = .ok (.iaload, 1) := by decide +kernel
theorem dX0_bypass_51 : decode cX0_bypass 51 = .ok (.iconst 2, 1) := by decide +kernel
theorem dX0_bypass_52 : decode cX0_bypass 52 = .ok (.if_icmp .ne 4, 3) := by decide +kernel
theorem dX0_bypass_55 : decode cX0_bypass 55 = .ok (.return_, 1) := by decide +kernel
theorem dX0_bypass_56 : decode cX0_bypass 56 = .ok (.aload_n 0, 1) := by decide +kernel
theorem dX0_bypass_57 : decode cX0_bypass 57 = .ok (.iload_n 1, 1) := by decide +kernel
theorem dX0_bypass_58 : decode cX0_bypass 58 = .ok (.invokevirtual 75, 3) := by decide +kernel
theorem dX0_bypass_61 : decode cX0_bypass 61 = .ok (.aload_n 0, 1) := by decide +kernel
theorem dX0_bypass_62 : decode cX0_bypass 62 = .ok (.getfield 24, 3) := by decide +kernel
theorem dX0_bypass_65 : decode cX0_bypass 65 = .ok (.iload_n 2, 1) := by decide +kernel
theorem dX0_bypass_66 : decode cX0_bypass 66 = .ok (.aaload, 1) := by decide +kernel
theorem dX0_bypass_67 : decode cX0_bypass 67 = .ok (.iload_n 3, 1) := by decide +kernel
theorem dX0_bypass_68 : decode cX0_bypass 68 = .ok (.iconst 2, 1) := by decide +kernel
theorem dX0_bypass_69 : decode cX0_bypass 69 = .ok (.iastore, 1) := by decide +kernel
theorem dX0_bypass_70 : decode cX0_bypass 70 = .ok (.aload_n 0, 1) := by decide +kernel
theorem dX0_bypass_71 : decode cX0_bypass 71 = .ok (.getfield 24, 3) := by decide +kernel
theorem dX0_bypass_74 : decode cX0_bypass 74 = .ok (.iload_n 3, 1) := by decide +kernel
theorem dX0_bypass_75 : decode cX0_bypass 75 = .ok (.aaload, 1) := by decide +kernel
theorem dX0_bypass_76 : decode cX0_bypass 76 = .ok (.iload_n 2, 1) := by decide +kernel
theorem dX0_bypass_77 : decode cX0_bypass 77 = .ok (.iconst 2, 1) := by decide +kernel
theorem dX0_bypass_78 : decode cX0_bypass 78 = .ok (.iastore, 1) := by decide +kernel
theorem dX0_bypass_79 : decode cX0_bypass 79 = .ok (.return_, 1) := by decide +kernel
theorem dX0_neighbourAfter_0 : decode cX0_neighbourAfter 0 = .ok (.iload_n 2, 1) := by decide +kernel
theorem dX0_neighbourAfter_1 : decode cX0_neighbourAfter 1 = .ok (.iconst 1, 1) := by decide +kernel
theorem dX0_neighbourAfter_2 : decode cX0_neighbourAfter 2 = .ok (.iadd, 1) := by decide +kernel
theorem dX0_neighbourAfter_3 : decode cX0_neighbourAfter 3 = .ok (.istore_n 3, 1) := by decide +kernel
theorem dX0_neighbourAfter_4 : decode cX0_neighbourAfter 4 = .ok (.iload_n 3, 1) := by decide +kernel
theorem dX0_neighbourAfter_5 : decode cX0_neighbourAfter 5 = .ok (.aload_n 0, 1) := by decide +kernel
theorem dX0_neighbourAfter_6 : decode cX0_neighbourAfter 6 = .ok (.getfield 52, 3) := by decide +kernel
theorem dX0_neighbourAfter_9 : decode cX0_neighbourAfter 9 = .ok (.if_icmp .ge 26, 3) := by decide +kernel
theorem dX0_neighbourAfter_12 : decode cX0_neighbourAfter 12 = .ok (.iload_n 3, 1) := by decide +kernel
theorem dX0_neighbourAfter_13 : decode cX0_neighbourAfter 13 = .ok (.ifCond .lt 16, 3) := by decide +kernel
theorem dX0_neighbourAfter_16 : decode cX0_neighbourAfter 16 = .ok (.aload_n 0, 1) := by decide +kernel
theorem dX0_neighbourAfter_17 : decode cX0_neighbourAfter 17 = .ok (.getfield 24, 3) := by decide +kernel
theorem dX0_neighbourAfter_20 : decode cX0_neighbourAfter 20 = .ok (.iload_n 1, 1) := by decide +kernel
theorem dX0_neighbourAfter_21 : decode cX0_neighbourAfter 21 = .ok (.aaload, 1) := by decide +kernel
theorem dX0_neighbourAfter_22 : decode cX0_neighbourAfter 22 = .ok (.iload_n 3, 1) := by decide +kernel
theorem dX0_neighbourAfter_23 : decode cX0_neighbourAfter 23 = .ok (.iaload, 1) := by decide +kernel
theorem dX0_neighbourAfter_24 : decode cX0_neighbourAfter 24 = .ok (.ifCond .eq 5, 3) := by decide +kernel
theorem dX0_neighbourAfter_27 : decode cX0_neighbourAfter 27 = .ok (.iload_n 3, 1) := by decide +kernel
theorem dX0_neighbourAfter_28 : decode cX0_neighbourAfter 28 = .ok (.ireturn, 1) := by decide +kernel
theorem dX0_neighbourAfter_29 : decode cX0_neighbourAfter 29 = .ok (.iinc 3 1, 3) := by decide +kernel
theorem dX0_neighbourAfter_32 : decode cX0_neighbourAfter 32 = .ok (.goto (-28), 3) := by decide +kernel
theorem dX0_neighbourAfter_35 : decode cX0_neighbourAfter 35 = .ok (.bipush (-9), 2) := by decide +kernel
theorem dX0_neighbourAfter_37 : decode cX0_neighbourAfter 37 = .ok (.ireturn, 1) := by decide +kernel
theorem dX0_degreeOf_0 : decode cX0_degreeOf 0 = .ok (.iconst 0, 1) := by decide +kernel
theorem dX0_degreeOf_1 : decode cX0_degreeOf 1 = .ok (.istore_n 2, 1) := by decide +kernel
theorem dX0_degreeOf_2 : decode cX0_degreeOf 2 = .ok (.iconst 0, 1) := by decide +kernel
theorem dX0_degreeOf_3 : decode cX0_degreeOf 3 = .ok (.istore_n 3, 1) := by decide +kernel
theorem dX0_degreeOf_4 : decode cX0_degreeOf 4 = .ok (.iload_n 3, 1) := by decide +kernel
theorem dX0_degreeOf_5 : decode cX0_degreeOf 5 = .ok (.aload_n 0, 1) := by decide +kernel
theorem dX0_degreeOf_6 : decode cX0_degreeOf 6 = .ok (.getfield 52, 3) := by decide +kernel
theorem dX0_degreeOf_9 : decode cX0_degreeOf 9 = .ok (.if_icmp .ge 23, 3) := by decide +kernel
theorem dX0_degreeOf_12 : decode cX0_degreeOf 12 = .ok (.aload_n 0, 1) := by decide +kernel
theorem dX0_degreeOf_13 : decode cX0_degreeOf 13 = .ok (.getfield 24, 3) := by decide +kernel
theorem dX0_degreeOf_16 : decode cX0_degreeOf 16 = .ok (.iload_n 1, 1) := by decide +kernel
theorem dX0_degreeOf_17 : decode cX0_degreeOf 17 = .ok (.aaload, 1) := by decide +kernel
theorem dX0_degreeOf_18 : decode cX0_degreeOf 18 = .ok (.iload_n 3, 1) := by decide +kernel
theorem dX0_degreeOf_19 : decode cX0_degreeOf 19 = .ok (.iaload, 1) := by decide +kernel
theorem dX0_degreeOf_20 : decode cX0_degreeOf 20 = .ok (.ifCond .eq 6, 3) := by decide +kernel
theorem dX0_degreeOf_23 : decode cX0_degreeOf 23 = .ok (.iinc 2 1, 3) := by decide +kernel
theorem dX0_degreeOf_26 : decode cX0_degreeOf 26 = .ok (.iinc 3 1, 3) := by decide +kernel
theorem dX0_degreeOf_29 : decode cX0_degreeOf 29 = .ok (.goto (-25), 3) := by decide +kernel
theorem dX0_degreeOf_32 : decode cX0_degreeOf 32 = .ok (.iload_n 2, 1) := by decide +kernel
theorem dX0_degreeOf_33 : decode cX0_degreeOf 33 = .ok (.ireturn, 1) := by decide +kernel
theorem dX0_remove_0 : decode cX0_remove 0 = .ok (.aload_n 0, 1) := by decide +kernel
theorem dX0_remove_1 : decode cX0_remove 1 = .ok (.getfield 9, 3) := by decide +kernel
theorem dX0_remove_4 : decode cX0_remove 4 = .ok (.iload_n 1, 1) := by decide +kernel
theorem dX0_remove_5 : decode cX0_remove 5 = .ok (.iconst 0, 1) := by decide +kernel
theorem dX0_remove_6 : decode cX0_remove 6 = .ok (.bastore, 1) := by decide +kernel
theorem dX0_remove_7 : decode cX0_remove 7 = .ok (.aload_n 0, 1) := by decide +kernel
theorem dX0_remove_8 : decode cX0_remove 8 = .ok (.getfield 18, 3) := by decide +kernel
theorem dX0_remove_11 : decode cX0_remove 11 = .ok (.iload_n 1, 1) := by decide +kernel
theorem dX0_remove_12 : decode cX0_remove 12 = .ok (.aload_n 0, 1) := by decide +kernel
theorem dX0_remove_13 : decode cX0_remove 13 = .ok (.getfield 35, 3) := by decide +kernel
theorem dX0_remove_16 : decode cX0_remove 16 = .ok (.iastore, 1) := by decide +kernel
theorem dX0_remove_17 : decode cX0_remove 17 = .ok (.aload_n 0, 1) := by decide +kernel
theorem dX0_remove_18 : decode cX0_remove 18 = .ok (.dup, 1) := by decide +kernel
theorem dX0_remove_19 : decode cX0_remove 19 = .ok (.getfield 39, 3) := by decide +kernel
theorem dX0_remove_22 : decode cX0_remove 22 = .ok (.iconst 1, 1) := by decide +kernel
theorem dX0_remove_23 : decode cX0_remove 23 = .ok (.isub, 1) := by decide +kernel
theorem dX0_remove_24 : decode cX0_remove 24 = .ok (.putfield 39, 3) := by decide +kernel
theorem dX0_remove_27 : decode cX0_remove 27 = .ok (.iconst 0, 1) := by decide +kernel
theorem dX0_remove_28 : decode cX0_remove 28 = .ok (.istore_n 2, 1) := by decide +kernel
theorem dX0_remove_29 : decode cX0_remove 29 = .ok (.iload_n 2, 1) := by decide +kernel
theorem dX0_remove_30 : decode cX0_remove 30 = .ok (.aload_n 0, 1) := by decide +kernel
theorem dX0_remove_31 : decode cX0_remove 31 = .ok (.getfield 52, 3) := by decide +kernel
theorem dX0_remove_34 : decode cX0_remove 34 = .ok (.if_icmp .ge 27, 3) := by decide +kernel
theorem dX0_remove_37 : decode cX0_remove 37 = .ok (.aload_n 0, 1) := by decide +kernel
theorem dX0_remove_38 : decode cX0_remove 38 = .ok (.getfield 24, 3) := by decide +kernel
theorem dX0_remove_41 : decode cX0_remove 41 = .ok (.iload_n 2, 1) := by decide +kernel
theorem dX0_remove_42 : decode cX0_remove 42 = .ok (.aaload, 1) := by decide +kernel
theorem dX0_remove_43 : decode cX0_remove 43 = .ok (.iload_n 1, 1) := by decide +kernel
theorem dX0_remove_44 : decode cX0_remove 44 = .ok (.iconst 0, 1) := by decide +kernel
theorem dX0_remove_45 : decode cX0_remove 45 = .ok (.iastore, 1) := by decide +kernel
theorem dX0_remove_46 : decode cX0_remove 46 = .ok (.aload_n 0, 1) := by decide +kernel
theorem dX0_remove_47 : decode cX0_remove 47 = .ok (.getfield 24, 3) := by decide +kernel
theorem dX0_remove_50 : decode cX0_remove 50 = .ok (.iload_n 1, 1) := by decide +kernel
theorem dX0_remove_51 : decode cX0_remove 51 = .ok (.aaload, 1) := by decide +kernel
theorem dX0_remove_52 : decode cX0_remove 52 = .ok (.iload_n 2, 1) := by decide +kernel
theorem dX0_remove_53 : decode cX0_remove 53 = .ok (.iconst 0, 1) := by decide +kernel
theorem dX0_remove_54 : decode cX0_remove 54 = .ok (.iastore, 1) := by decide +kernel
theorem dX0_remove_55 : decode cX0_remove 55 = .ok (.iinc 2 1, 3) := by decide +kernel
theorem dX0_remove_58 : decode cX0_remove 58 = .ok (.goto (-29), 3) := by decide +kernel
theorem dX0_remove_61 : decode cX0_remove 61 = .ok (.return_, 1) := by decide +kernel
theorem dX1_init_0 : decode cX1_init 0 = .ok (.aload_n 0, 1) := by decide +kernel
theorem dX1_init_1 : decode cX1_init 1 = .ok (.invokespecial 3, 3) := by decide +kernel
theorem dX1_init_4 : decode cX1_init 4 = .ok (.aload_n 0, 1) := by decide +kernel
theorem dX1_init_5 : decode cX1_init 5 = .ok (.bipush 12, 2) := by decide +kernel
theorem dX1_init_7 : decode cX1_init 7 = .ok (.newarray .int, 2) := by decide +kernel
theorem dX1_init_9 : decode cX1_init 9 = .ok (.putfield 9, 3) := by decide +kernel
theorem dX1_init_12 : decode cX1_init 12 = .ok (.aload_n 0, 1) := by decide +kernel
theorem dX1_init_13 : decode cX1_init 13 = .ok (.bipush 12, 2) := by decide +kernel
theorem dX1_init_15 : decode cX1_init 15 = .ok (.bipush 12, 2) := by decide +kernel
theorem dX1_init_17 : decode cX1_init 17 = .ok (.multianewarray 15 2, 4) := by decide +kernel
theorem dX1_init_21 : decode cX1_init 21 = .ok (.putfield 17, 3) := by decide +kernel
theorem dX1_init_24 : decode cX1_init 24 = .ok (.aload_n 0, 1) := by decide +kernel
theorem dX1_init_25 : decode cX1_init 25 = .ok (.bipush 12, 2) := by decide +kernel
theorem dX1_init_27 : decode cX1_init 27 = .ok (.invokevirtual 20, 3) := by decide +kernel
theorem dX1_init_30 : decode cX1_init 30 = .ok (.return_, 1) := by decide +kernel
theorem dX1_reset_0 : decode cX1_reset 0 = .ok (.aload_n 0, 1) := by decide +kernel
theorem dX1_reset_1 : decode cX1_reset 1 = .ok (.iconst 1, 1) := by decide +kernel
theorem dX1_reset_2 : decode cX1_reset 2 = .ok (.iload_n 1, 1) := by decide +kernel
theorem dX1_reset_3 : decode cX1_reset 3 = .ok (.bipush 12, 2) := by decide +kernel
theorem dX1_reset_5 : decode cX1_reset 5 = .ok (.invokestatic 24, 3) := by decide +kernel
theorem dX1_reset_8 : decode cX1_reset 8 = .ok (.invokestatic 30, 3) := by decide +kernel
theorem dX1_reset_11 : decode cX1_reset 11 = .ok (.putfield 33, 3) := by decide +kernel
theorem dX1_reset_14 : decode cX1_reset 14 = .ok (.aload_n 0, 1) := by decide +kernel
theorem dX1_reset_15 : decode cX1_reset 15 = .ok (.getfield 9, 3) := by decide +kernel
theorem dX1_reset_18 : decode cX1_reset 18 = .ok (.iconst 1, 1) := by decide +kernel
theorem dX1_reset_19 : decode cX1_reset 19 = .ok (.invokestatic 37, 3) := by decide +kernel
theorem dX1_reset_22 : decode cX1_reset 22 = .ok (.iconst 0, 1) := by decide +kernel
theorem dX1_reset_23 : decode cX1_reset 23 = .ok (.istore_n 2, 1) := by decide +kernel
theorem dX1_reset_24 : decode cX1_reset 24 = .ok (.iload_n 2, 1) := by decide +kernel
theorem dX1_reset_25 : decode cX1_reset 25 = .ok (.bipush 12, 2) := by decide +kernel
theorem dX1_reset_27 : decode cX1_reset 27 = .ok (.if_icmp .ge 19, 3) := by decide +kernel
theorem dX1_reset_30 : decode cX1_reset 30 = .ok (.aload_n 0, 1) := by decide +kernel
theorem dX1_reset_31 : decode cX1_reset 31 = .ok (.getfield 17, 3) := by decide +kernel
theorem dX1_reset_34 : decode cX1_reset 34 = .ok (.iload_n 2, 1) := by decide +kernel
theorem dX1_reset_35 : decode cX1_reset 35 = .ok (.aaload, 1) := by decide +kernel
theorem dX1_reset_36 : decode cX1_reset 36 = .ok (.iconst 0, 1) := by decide +kernel
theorem dX1_reset_37 : decode cX1_reset 37 = .ok (.invokestatic 37, 3) := by decide +kernel
theorem dX1_reset_40 : decode cX1_reset 40 = .ok (.iinc 2 1, 3) := by decide +kernel
theorem dX1_reset_43 : decode cX1_reset 43 = .ok (.goto (-19), 3) := by decide +kernel
theorem dX1_reset_46 : decode cX1_reset 46 = .ok (.return_, 1) := by decide +kernel
theorem dX1_become_0 : decode cX1_become 0 = .ok (.aload_n 0, 1) := by decide +kernel
theorem dX1_become_1 : decode cX1_become 1 = .ok (.aload_n 1, 1) := by decide +kernel
theorem dX1_become_2 : decode cX1_become 2 = .ok (.getfield 33, 3) := by decide +kernel
theorem dX1_become_5 : decode cX1_become 5 = .ok (.putfield 33, 3) := by decide +kernel
theorem dX1_become_8 : decode cX1_become 8 = .ok (.aload_n 1, 1) := by decide +kernel
theorem dX1_become_9 : decode cX1_become 9 = .ok (.getfield 9, 3) := by decide +kernel
theorem dX1_become_12 : decode cX1_become 12 = .ok (.iconst 0, 1) := by decide +kernel
theorem dX1_become_13 : decode cX1_become 13 = .ok (.aload_n 0, 1) := by decide +kernel
theorem dX1_become_14 : decode cX1_become 14 = .ok (.getfield 9, 3) := by decide +kernel
theorem dX1_become_17 : decode cX1_become 17 = .ok (.iconst 0, 1) := by decide +kernel
theorem dX1_become_18 : decode cX1_become 18 = .ok (.bipush 12, 2) := by decide +kernel
theorem dX1_become_20 : decode cX1_become 20 = .ok (.invokestatic 43, 3) := by decide +kernel
theorem dX1_become_23 : decode cX1_become 23 = .ok (.iconst 0, 1) := by decide +kernel
theorem dX1_become_24 : decode cX1_become 24 = .ok (.istore_n 2, 1) := by decide +kernel
theorem dX1_become_25 : decode cX1_become 25 = .ok (.iload_n 2, 1) := by decide +kernel
theorem dX1_become_26 : decode cX1_become 26 = .ok (.bipush 12, 2) := by decide +kernel
theorem dX1_become_28 : decode cX1_become 28 = .ok (.if_icmp .ge 28, 3) := by decide +kernel
theorem dX1_become_31 : decode cX1_become 31 = .ok (.aload_n 1, 1) := by decide +kernel
theorem dX1_become_32 : decode cX1_become 32 = .ok (.getfield 17, 3) := by decide +kernel
theorem dX1_become_35 : decode cX1_become 35 = .ok (.iload_n 2, 1) := by decide +kernel
theorem dX1_become_36 : decode cX1_become 36 = .ok (.aaload, 1) := by decide +kernel
theorem dX1_become_37 : decode cX1_become 37 = .ok (.iconst 0, 1) := by decide +kernel
theorem dX1_become_38 : decode cX1_become 38 = .ok (.aload_n 0, 1) := by decide +kernel
theorem dX1_become_39 : decode cX1_become 39 = .ok (.getfield 17, 3) := by decide +kernel
theorem dX1_become_42 : decode cX1_become 42 = .ok (.iload_n 2, 1) := by decide +kernel
theorem dX1_become_43 : decode cX1_become 43 = .ok (.aaload, 1) := by decide +kernel
theorem dX1_become_44 : decode cX1_become 44 = .ok (.iconst 0, 1) := by decide +kernel
theorem dX1_become_45 : decode cX1_become 45 = .ok (.bipush 12, 2) := by decide +kernel
theorem dX1_become_47 : decode cX1_become 47 = .ok (.invokestatic 43, 3) := by decide +kernel
theorem dX1_become_50 : decode cX1_become 50 = .ok (.iinc 2 1, 3) := by decide +kernel
theorem dX1_become_53 : decode cX1_become 53 = .ok (.goto (-28), 3) := by decide +kernel
theorem dX1_become_56 : decode cX1_become 56 = .ok (.return_, 1) := by decide +kernel
theorem dX1_vertices_0 : decode cX1_vertices 0 = .ok (.aload_n 0, 1) := by decide +kernel
theorem dX1_vertices_1 : decode cX1_vertices 1 = .ok (.getfield 33, 3) := by decide +kernel
theorem dX1_vertices_4 : decode cX1_vertices 4 = .ok (.ireturn, 1) := by decide +kernel
theorem dX1_hasVertex_0 : decode cX1_hasVertex 0 = .ok (.iload_n 1, 1) := by decide +kernel
theorem dX1_hasVertex_1 : decode cX1_hasVertex 1 = .ok (.ifCond .lt 15, 3) := by decide +kernel
theorem dX1_hasVertex_4 : decode cX1_hasVertex 4 = .ok (.iload_n 1, 1) := by decide +kernel
theorem dX1_hasVertex_5 : decode cX1_hasVertex 5 = .ok (.aload_n 0, 1) := by decide +kernel
theorem dX1_hasVertex_6 : decode cX1_hasVertex 6 = .ok (.getfield 33, 3) := by decide +kernel
theorem dX1_hasVertex_9 : decode cX1_hasVertex 9 = .ok (.if_icmp .ge 7, 3) := by decide +kernel
theorem dX1_hasVertex_12 : decode cX1_hasVertex 12 = .ok (.iconst 1, 1) := by decide +kernel
theorem dX1_hasVertex_13 : decode cX1_hasVertex 13 = .ok (.goto 4, 3) := by decide +kernel
theorem dX1_hasVertex_16 : decode cX1_hasVertex 16 = .ok (.iconst 0, 1) := by decide +kernel
theorem dX1_hasVertex_17 : decode cX1_hasVertex 17 = .ok (.ireturn, 1) := by decide +kernel
theorem dX1_hasVertices_0 : decode cX1_hasVertices 0 = .ok (.iload_n 1, 1) := by decide +kernel
theorem dX1_hasVertices_1 : decode cX1_hasVertices 1 = .ok (.ifCond .lt 27, 3) := by decide +kernel
theorem dX1_hasVertices_4 : decode cX1_hasVertices 4 = .ok (.iload_n 1, 1) := by decide +kernel
theorem dX1_hasVertices_5 : decode cX1_hasVertices 5 = .ok (.aload_n 0, 1) := by decide +kernel
theorem dX1_hasVertices_6 : decode cX1_hasVertices 6 = .ok (.getfield 33, 3) := by decide +kernel
theorem dX1_hasVertices_9 : decode cX1_hasVertices 9 = .ok (.if_icmp .ge 19, 3) := by decide +kernel
theorem dX1_hasVertices_12 : decode cX1_hasVertices 12 = .ok (.iload_n 2, 1) := by decide +kernel
theorem dX1_hasVertices_13 : decode cX1_hasVertices 13 = .ok (.ifCond .lt 15, 3) := by decide +kernel
theorem dX1_hasVertices_16 : decode cX1_hasVertices 16 = .ok (.iload_n 2, 1) := by decide +kernel
theorem dX1_hasVertices_17 : decode cX1_hasVertices 17 = .ok (.aload_n 0, 1) := by decide +kernel
theorem dX1_hasVertices_18 : decode cX1_hasVertices 18 = .ok (.getfield 33, 3) := by decide +kernel
theorem dX1_hasVertices_21 : decode cX1_hasVertices 21 = .ok (.if_icmp .ge 7, 3) := by decide +kernel
theorem dX1_hasVertices_24 : decode cX1_hasVertices 24 = .ok (.iconst 1, 1) := by decide +kernel
theorem dX1_hasVertices_25 : decode cX1_hasVertices 25 = .ok (.goto 4, 3) := by decide +kernel
theorem dX1_hasVertices_28 : decode cX1_hasVertices 28 = .ok (.iconst 0, 1) := by decide +kernel
theorem dX1_hasVertices_29 : decode cX1_hasVertices 29 = .ok (.ireturn, 1) := by decide +kernel
theorem dX1_weightOf_0 : decode cX1_weightOf 0 = .ok (.aload_n 0, 1) := by decide +kernel
theorem dX1_weightOf_1 : decode cX1_weightOf 1 = .ok (.iload_n 1, 1) := by decide +kernel
theorem dX1_weightOf_2 : decode cX1_weightOf 2 = .ok (.invokevirtual 49, 3) := by decide +kernel
theorem dX1_weightOf_5 : decode cX1_weightOf 5 = .ok (.ifCond .eq 12, 3) := by decide +kernel
theorem dX1_weightOf_8 : decode cX1_weightOf 8 = .ok (.aload_n 0, 1) := by decide +kernel
theorem dX1_weightOf_9 : decode cX1_weightOf 9 = .ok (.getfield 9, 3) := by decide +kernel
theorem dX1_weightOf_12 : decode cX1_weightOf 12 = .ok (.iload_n 1, 1) := by decide +kernel
theorem dX1_weightOf_13 : decode cX1_weightOf 13 = .ok (.iaload, 1) := by decide +kernel
theorem dX1_weightOf_14 : decode cX1_weightOf 14 = .ok (.goto 4, 3) := by decide +kernel
theorem dX1_weightOf_17 : decode cX1_weightOf 17 = .ok (.iconst 0, 1) := by decide +kernel
theorem dX1_weightOf_18 : decode cX1_weightOf 18 = .ok (.ireturn, 1) := by decide +kernel
theorem dX1_putWeight_0 : decode cX1_putWeight 0 = .ok (.aload_n 0, 1) := by decide +kernel
theorem dX1_putWeight_1 : decode cX1_putWeight 1 = .ok (.iload_n 1, 1) := by decide +kernel
theorem dX1_putWeight_2 : decode cX1_putWeight 2 = .ok (.invokevirtual 49, 3) := by decide +kernel
theorem dX1_putWeight_5 : decode cX1_putWeight 5 = .ok (.ifCond .eq 10, 3) := by decide +kernel
theorem dX1_putWeight_8 : decode cX1_putWeight 8 = .ok (.aload_n 0, 1) := by decide +kernel
theorem dX1_putWeight_9 : decode cX1_putWeight 9 = .ok (.getfield 9, 3) := by decide +kernel
theorem dX1_putWeight_12 : decode cX1_putWeight 12 = .ok (.iload_n 1, 1) := by decide +kernel
theorem dX1_putWeight_13 : decode cX1_putWeight 13 = .ok (.iload_n 2, 1) := by decide +kernel
theorem dX1_putWeight_14 : decode cX1_putWeight 14 = .ok (.iastore, 1) := by decide +kernel
theorem dX1_putWeight_15 : decode cX1_putWeight 15 = .ok (.return_, 1) := by decide +kernel
theorem dX1_hasEdge_0 : decode cX1_hasEdge 0 = .ok (.aload_n 0, 1) := by decide +kernel
theorem dX1_hasEdge_1 : decode cX1_hasEdge 1 = .ok (.iload_n 1, 1) := by decide +kernel
theorem dX1_hasEdge_2 : decode cX1_hasEdge 2 = .ok (.iload_n 2, 1) := by decide +kernel
theorem dX1_hasEdge_3 : decode cX1_hasEdge 3 = .ok (.invokevirtual 53, 3) := by decide +kernel
theorem dX1_hasEdge_6 : decode cX1_hasEdge 6 = .ok (.ifCond .eq 7, 3) := by decide +kernel
theorem dX1_hasEdge_9 : decode cX1_hasEdge 9 = .ok (.iconst 1, 1) := by decide +kernel
theorem dX1_hasEdge_10 : decode cX1_hasEdge 10 = .ok (.goto 4, 3) := by decide +kernel
theorem dX1_hasEdge_13 : decode cX1_hasEdge 13 = .ok (.iconst 0, 1) := by decide +kernel
theorem dX1_hasEdge_14 : decode cX1_hasEdge 14 = .ok (.ireturn, 1) := by decide +kernel
theorem dX1_edgeBetween_0 : decode cX1_edgeBetween 0 = .ok (.aload_n 0, 1) := by decide +kernel
theorem dX1_edgeBetween_1 : decode cX1_edgeBetween 1 = .ok (.iload_n 1, 1) := by decide +kernel
theorem dX1_edgeBetween_2 : decode cX1_edgeBetween 2 = .ok (.iload_n 2, 1) := by decide +kernel
theorem dX1_edgeBetween_3 : decode cX1_edgeBetween 3 = .ok (.invokevirtual 56, 3) := by decide +kernel
theorem dX1_edgeBetween_6 : decode cX1_edgeBetween 6 = .ok (.ifCond .eq 14, 3) := by decide +kernel
theorem dX1_edgeBetween_9 : decode cX1_edgeBetween 9 = .ok (.aload_n 0, 1) := by decide +kernel
theorem dX1_edgeBetween_10 : decode cX1_edgeBetween 10 = .ok (.getfield 17, 3) := by decide +kernel
theorem dX1_edgeBetween_13 : decode cX1_edgeBetween 13 = .ok (.iload_n 1, 1) := by decide +kernel
theorem dX1_edgeBetween_14 : decode cX1_edgeBetween 14 = .ok (.aaload, 1) := by decide +kernel
theorem dX1_edgeBetween_15 : decode cX1_edgeBetween 15 = .ok (.iload_n 2, 1) := by decide +kernel
theorem dX1_edgeBetween_16 : decode cX1_edgeBetween 16 = .ok (.iaload, 1) := by decide +kernel
theorem dX1_edgeBetween_17 : decode cX1_edgeBetween 17 = .ok (.goto 4, 3) := by decide +kernel
theorem dX1_edgeBetween_20 : decode cX1_edgeBetween 20 = .ok (.iconst 0, 1) := by decide +kernel
theorem dX1_edgeBetween_21 : decode cX1_edgeBetween 21 = .ok (.ireturn, 1) := by decide +kernel
theorem dX1_putEdge_0 : decode cX1_putEdge 0 = .ok (.aload_n 0, 1) := by decide +kernel
theorem dX1_putEdge_1 : decode cX1_putEdge 1 = .ok (.iload_n 1, 1) := by decide +kernel
theorem dX1_putEdge_2 : decode cX1_putEdge 2 = .ok (.iload_n 2, 1) := by decide +kernel
theorem dX1_putEdge_3 : decode cX1_putEdge 3 = .ok (.invokevirtual 56, 3) := by decide +kernel
theorem dX1_putEdge_6 : decode cX1_putEdge 6 = .ok (.ifCond .eq 21, 3) := by decide +kernel
theorem dX1_putEdge_9 : decode cX1_putEdge 9 = .ok (.aload_n 0, 1) := by decide +kernel
theorem dX1_putEdge_10 : decode cX1_putEdge 10 = .ok (.getfield 17, 3) := by decide +kernel
theorem dX1_putEdge_13 : decode cX1_putEdge 13 = .ok (.iload_n 1, 1) := by decide +kernel
theorem dX1_putEdge_14 : decode cX1_putEdge 14 = .ok (.aaload, 1) := by decide +kernel
theorem dX1_putEdge_15 : decode cX1_putEdge 15 = .ok (.iload_n 2, 1) := by decide +kernel
theorem dX1_putEdge_16 : decode cX1_putEdge 16 = .ok (.iload_n 3, 1) := by decide +kernel
theorem dX1_putEdge_17 : decode cX1_putEdge 17 = .ok (.iastore, 1) := by decide +kernel
theorem dX1_putEdge_18 : decode cX1_putEdge 18 = .ok (.aload_n 0, 1) := by decide +kernel
theorem dX1_putEdge_19 : decode cX1_putEdge 19 = .ok (.getfield 17, 3) := by decide +kernel
theorem dX1_putEdge_22 : decode cX1_putEdge 22 = .ok (.iload_n 2, 1) := by decide +kernel
theorem dX1_putEdge_23 : decode cX1_putEdge 23 = .ok (.aaload, 1) := by decide +kernel
theorem dX1_putEdge_24 : decode cX1_putEdge 24 = .ok (.iload_n 1, 1) := by decide +kernel
theorem dX1_putEdge_25 : decode cX1_putEdge 25 = .ok (.iload_n 3, 1) := by decide +kernel
theorem dX1_putEdge_26 : decode cX1_putEdge 26 = .ok (.iastore, 1) := by decide +kernel
theorem dX1_putEdge_27 : decode cX1_putEdge 27 = .ok (.return_, 1) := by decide +kernel
theorem dX1_edgeCount_0 : decode cX1_edgeCount 0 = .ok (.iconst 0, 1) := by decide +kernel
theorem dX1_edgeCount_1 : decode cX1_edgeCount 1 = .ok (.istore_n 1, 1) := by decide +kernel
theorem dX1_edgeCount_2 : decode cX1_edgeCount 2 = .ok (.iconst 0, 1) := by decide +kernel
theorem dX1_edgeCount_3 : decode cX1_edgeCount 3 = .ok (.istore_n 2, 1) := by decide +kernel
theorem dX1_edgeCount_4 : decode cX1_edgeCount 4 = .ok (.iload_n 2, 1) := by decide +kernel
theorem dX1_edgeCount_5 : decode cX1_edgeCount 5 = .ok (.aload_n 0, 1) := by decide +kernel
theorem dX1_edgeCount_6 : decode cX1_edgeCount 6 = .ok (.getfield 33, 3) := by decide +kernel
theorem dX1_edgeCount_9 : decode cX1_edgeCount 9 = .ok (.if_icmp .ge 39, 3) := by decide +kernel
theorem dX1_edgeCount_12 : decode cX1_edgeCount 12 = .ok (.iload_n 2, 1) := by decide +kernel
theorem dX1_edgeCount_13 : decode cX1_edgeCount 13 = .ok (.iconst 1, 1) := by decide +kernel
theorem dX1_edgeCount_14 : decode cX1_edgeCount 14 = .ok (.iadd, 1) := by decide +kernel
theorem dX1_edgeCount_15 : decode cX1_edgeCount 15 = .ok (.istore_n 3, 1) := by decide +kernel
theorem dX1_edgeCount_16 : decode cX1_edgeCount 16 = .ok (.iload_n 3, 1) := by decide +kernel
theorem dX1_edgeCount_17 : decode cX1_edgeCount 17 = .ok (.aload_n 0, 1) := by decide +kernel
theorem dX1_edgeCount_18 : decode cX1_edgeCount 18 = .ok (.getfield 33, 3) := by decide +kernel
theorem dX1_edgeCount_21 : decode cX1_edgeCount 21 = .ok (.if_icmp .ge 21, 3) := by decide +kernel
theorem dX1_edgeCount_24 : decode cX1_edgeCount 24 = .ok (.aload_n 0, 1) := by decide +kernel
theorem dX1_edgeCount_25 : decode cX1_edgeCount 25 = .ok (.iload_n 2, 1) := by decide +kernel
theorem dX1_edgeCount_26 : decode cX1_edgeCount 26 = .ok (.iload_n 3, 1) := by decide +kernel
theorem dX1_edgeCount_27 : decode cX1_edgeCount 27 = .ok (.invokevirtual 60, 3) := by decide +kernel
theorem dX1_edgeCount_30 : decode cX1_edgeCount 30 = .ok (.ifCond .eq 6, 3) := by decide +kernel
theorem dX1_edgeCount_33 : decode cX1_edgeCount 33 = .ok (.iinc 1 1, 3) := by decide +kernel
theorem dX1_edgeCount_36 : decode cX1_edgeCount 36 = .ok (.iinc 3 1, 3) := by decide +kernel
theorem dX1_edgeCount_39 : decode cX1_edgeCount 39 = .ok (.goto (-23), 3) := by decide +kernel
theorem dX1_edgeCount_42 : decode cX1_edgeCount 42 = .ok (.iinc 2 1, 3) := by decide +kernel
theorem dX1_edgeCount_45 : decode cX1_edgeCount 45 = .ok (.goto (-41), 3) := by decide +kernel
theorem dX1_edgeCount_48 : decode cX1_edgeCount 48 = .ok (.iload_n 1, 1) := by decide +kernel
theorem dX1_edgeCount_49 : decode cX1_edgeCount 49 = .ok (.ireturn, 1) := by decide +kernel
theorem dX2_init_0 : decode cX2_init 0 = .ok (.aload_n 0, 1) := by decide +kernel
theorem dX2_init_1 : decode cX2_init 1 = .ok (.invokespecial 1, 3) := by decide +kernel
theorem dX2_init_4 : decode cX2_init 4 = .ok (.aload_n 0, 1) := by decide +kernel
theorem dX2_init_5 : decode cX2_init 5 = .ok (.bipush 14, 2) := by decide +kernel
theorem dX2_init_7 : decode cX2_init 7 = .ok (.anewarray 9, 3) := by decide +kernel
theorem dX2_init_10 : decode cX2_init 10 = .ok (.putfield 11, 3) := by decide +kernel
theorem dX2_init_13 : decode cX2_init 13 = .ok (.iconst 0, 1) := by decide +kernel
theorem dX2_init_14 : decode cX2_init 14 = .ok (.istore_n 1, 1) := by decide +kernel
theorem dX2_init_15 : decode cX2_init 15 = .ok (.iload_n 1, 1) := by decide +kernel
theorem dX2_init_16 : decode cX2_init 16 = .ok (.bipush 14, 2) := by decide +kernel
theorem dX2_init_18 : decode cX2_init 18 = .ok (.if_icmp .ge 22, 3) := by decide +kernel
theorem dX2_init_21 : decode cX2_init 21 = .ok (.aload_n 0, 1) := by decide +kernel
theorem dX2_init_22 : decode cX2_init 22 = .ok (.getfield 11, 3) := by decide +kernel
theorem dX2_init_25 : decode cX2_init 25 = .ok (.iload_n 1, 1) := by decide +kernel
theorem dX2_init_26 : decode cX2_init 26 = .ok (.new 9, 3) := by decide +kernel
theorem dX2_init_29 : decode cX2_init 29 = .ok (.dup, 1) := by decide +kernel
theorem dX2_init_30 : decode cX2_init 30 = .ok (.invokespecial 15, 3) := by decide +kernel
theorem dX2_init_33 : decode cX2_init 33 = .ok (.aastore, 1) := by decide +kernel
theorem dX2_init_34 : decode cX2_init 34 = .ok (.iinc 1 1, 3) := by decide +kernel
theorem dX2_init_37 : decode cX2_init 37 = .ok (.goto (-22), 3) := by decide +kernel
theorem dX2_init_40 : decode cX2_init 40 = .ok (.return_, 1) := by decide +kernel
theorem dX2_size_0 : decode cX2_size 0 = .ok (.aload_n 0, 1) := by decide +kernel
theorem dX2_size_1 : decode cX2_size 1 = .ok (.getfield 16, 3) := by decide +kernel
theorem dX2_size_4 : decode cX2_size 4 = .ok (.ireturn, 1) := by decide +kernel
theorem dX2_remember_0 : decode cX2_remember 0 = .ok (.aload_n 0, 1) := by decide +kernel
theorem dX2_remember_1 : decode cX2_remember 1 = .ok (.getfield 11, 3) := by decide +kernel
theorem dX2_remember_4 : decode cX2_remember 4 = .ok (.aload_n 0, 1) := by decide +kernel
theorem dX2_remember_5 : decode cX2_remember 5 = .ok (.getfield 20, 3) := by decide +kernel
theorem dX2_remember_8 : decode cX2_remember 8 = .ok (.aaload, 1) := by decide +kernel
theorem dX2_remember_9 : decode cX2_remember 9 = .ok (.aload_n 1, 1) := by decide +kernel
theorem dX2_remember_10 : decode cX2_remember 10 = .ok (.invokevirtual 23, 3) := by decide +kernel
theorem dX2_remember_13 : decode cX2_remember 13 = .ok (.aload_n 0, 1) := by decide +kernel
theorem dX2_remember_14 : decode cX2_remember 14 = .ok (.aload_n 0, 1) := by decide +kernel
theorem dX2_remember_15 : decode cX2_remember 15 = .ok (.getfield 20, 3) := by decide +kernel
theorem dX2_remember_18 : decode cX2_remember 18 = .ok (.iconst 1, 1) := by decide +kernel
theorem dX2_remember_19 : decode cX2_remember 19 = .ok (.iadd, 1) := by decide +kernel
theorem dX2_remember_20 : decode cX2_remember 20 = .ok (.bipush 14, 2) := by decide +kernel
theorem dX2_remember_22 : decode cX2_remember 22 = .ok (.irem, 1) := by decide +kernel
theorem dX2_remember_23 : decode cX2_remember 23 = .ok (.putfield 20, 3) := by decide +kernel
theorem dX2_remember_26 : decode cX2_remember 26 = .ok (.aload_n 0, 1) := by decide +kernel
theorem dX2_remember_27 : decode cX2_remember 27 = .ok (.aload_n 0, 1) := by decide +kernel
theorem dX2_remember_28 : decode cX2_remember 28 = .ok (.getfield 16, 3) := by decide +kernel
theorem dX2_remember_31 : decode cX2_remember 31 = .ok (.iconst 1, 1) := by decide +kernel
theorem dX2_remember_32 : decode cX2_remember 32 = .ok (.iadd, 1) := by decide +kernel
theorem dX2_remember_33 : decode cX2_remember 33 = .ok (.bipush 14, 2) := by decide +kernel
theorem dX2_remember_35 : decode cX2_remember 35 = .ok (.invokestatic 27, 3) := by decide +kernel
theorem dX2_remember_38 : decode cX2_remember 38 = .ok (.putfield 16, 3) := by decide +kernel
theorem dX2_remember_41 : decode cX2_remember 41 = .ok (.return_, 1) := by decide +kernel
theorem dX2_takeBack_0 : decode cX2_takeBack 0 = .ok (.aload_n 0, 1) := by decide +kernel
theorem dX2_takeBack_1 : decode cX2_takeBack 1 = .ok (.getfield 16, 3) := by decide +kernel
theorem dX2_takeBack_4 : decode cX2_takeBack 4 = .ok (.ifCond .ne 5, 3) := by decide +kernel
theorem dX2_takeBack_7 : decode cX2_takeBack 7 = .ok (.iconst 0, 1) := by decide +kernel
theorem dX2_takeBack_8 : decode cX2_takeBack 8 = .ok (.ireturn, 1) := by decide +kernel
theorem dX2_takeBack_9 : decode cX2_takeBack 9 = .ok (.aload_n 0, 1) := by decide +kernel
theorem dX2_takeBack_10 : decode cX2_takeBack 10 = .ok (.aload_n 0, 1) := by decide +kernel
theorem dX2_takeBack_11 : decode cX2_takeBack 11 = .ok (.getfield 20, 3) := by decide +kernel
theorem dX2_takeBack_14 : decode cX2_takeBack 14 = .ok (.bipush 14, 2) := by decide +kernel
theorem dX2_takeBack_16 : decode cX2_takeBack 16 = .ok (.iadd, 1) := by decide +kernel
theorem dX2_takeBack_17 : decode cX2_takeBack 17 = .ok (.iconst 1, 1) := by decide +kernel
theorem dX2_takeBack_18 : decode cX2_takeBack 18 = .ok (.isub, 1) := by decide +kernel
theorem dX2_takeBack_19 : decode cX2_takeBack 19 = .ok (.bipush 14, 2) := by decide +kernel
theorem dX2_takeBack_21 : decode cX2_takeBack 21 = .ok (.irem, 1) := by decide +kernel
theorem dX2_takeBack_22 : decode cX2_takeBack 22 = .ok (.putfield 20, 3) := by decide +kernel
theorem dX2_takeBack_25 : decode cX2_takeBack 25 = .ok (.aload_n 0, 1) := by decide +kernel
theorem dX2_takeBack_26 : decode cX2_takeBack 26 = .ok (.dup, 1) := by decide +kernel
theorem dX2_takeBack_27 : decode cX2_takeBack 27 = .ok (.getfield 16, 3) := by decide +kernel
theorem dX2_takeBack_30 : decode cX2_takeBack 30 = .ok (.iconst 1, 1) := by decide +kernel
theorem dX2_takeBack_31 : decode cX2_takeBack 31 = .ok (.isub, 1) := by decide +kernel
theorem dX2_takeBack_32 : decode cX2_takeBack 32 = .ok (.putfield 16, 3) := by decide +kernel
theorem dX2_takeBack_35 : decode cX2_takeBack 35 = .ok (.aload_n 1, 1) := by decide +kernel
theorem dX2_takeBack_36 : decode cX2_takeBack 36 = .ok (.aload_n 0, 1) := by decide +kernel
theorem dX2_takeBack_37 : decode cX2_takeBack 37 = .ok (.getfield 11, 3) := by decide +kernel
theorem dX2_takeBack_40 : decode cX2_takeBack 40 = .ok (.aload_n 0, 1) := by decide +kernel
theorem dX2_takeBack_41 : decode cX2_takeBack 41 = .ok (.getfield 20, 3) := by decide +kernel
theorem dX2_takeBack_44 : decode cX2_takeBack 44 = .ok (.aaload, 1) := by decide +kernel
theorem dX2_takeBack_45 : decode cX2_takeBack 45 = .ok (.invokevirtual 23, 3) := by decide +kernel
theorem dX2_takeBack_48 : decode cX2_takeBack 48 = .ok (.iconst 1, 1) := by decide +kernel
theorem dX2_takeBack_49 : decode cX2_takeBack 49 = .ok (.ireturn, 1) := by decide +kernel
theorem dX2_forget_0 : decode cX2_forget 0 = .ok (.aload_n 0, 1) := by decide +kernel
theorem dX2_forget_1 : decode cX2_forget 1 = .ok (.iconst 0, 1) := by decide +kernel
theorem dX2_forget_2 : decode cX2_forget 2 = .ok (.putfield 16, 3) := by decide +kernel
theorem dX2_forget_5 : decode cX2_forget 5 = .ok (.return_, 1) := by decide +kernel
theorem dX3_init_0 : decode cX3_init 0 = .ok (.aload_n 0, 1) := by decide +kernel
theorem dX3_init_1 : decode cX3_init 1 = .ok (.invokespecial 3, 3) := by decide +kernel
theorem dX3_init_4 : decode cX3_init 4 = .ok (.aload_n 0, 1) := by decide +kernel
theorem dX3_init_5 : decode cX3_init 5 = .ok (.bipush 6, 2) := by decide +kernel
theorem dX3_init_7 : decode cX3_init 7 = .ok (.newarray .int, 2) := by decide +kernel
theorem dX3_init_9 : decode cX3_init 9 = .ok (.putfield 11, 3) := by decide +kernel
theorem dX3_init_12 : decode cX3_init 12 = .ok (.aload_n 0, 1) := by decide +kernel
theorem dX3_init_13 : decode cX3_init 13 = .ok (.bipush 6, 2) := by decide +kernel
theorem dX3_init_15 : decode cX3_init 15 = .ok (.newarray .int, 2) := by decide +kernel
theorem dX3_init_17 : decode cX3_init 17 = .ok (.putfield 15, 3) := by decide +kernel
theorem dX3_init_20 : decode cX3_init 20 = .ok (.aload_n 0, 1) := by decide +kernel
theorem dX3_init_21 : decode cX3_init 21 = .ok (.bipush 6, 2) := by decide +kernel
theorem dX3_init_23 : decode cX3_init 23 = .ok (.newarray .int, 2) := by decide +kernel
theorem dX3_init_25 : decode cX3_init 25 = .ok (.putfield 18, 3) := by decide +kernel
theorem dX3_init_28 : decode cX3_init 28 = .ok (.return_, 1) := by decide +kernel
theorem dX3_store_0 : decode cX3_store 0 = .ok (.aload_n 0, 1) := by decide +kernel
theorem dX3_store_1 : decode cX3_store 1 = .ok (.getfield 11, 3) := by decide +kernel
theorem dX3_store_4 : decode cX3_store 4 = .ok (.aload_n 0, 1) := by decide +kernel
theorem dX3_store_5 : decode cX3_store 5 = .ok (.getfield 21, 3) := by decide +kernel
theorem dX3_store_8 : decode cX3_store 8 = .ok (.iload_n 1, 1) := by decide +kernel
theorem dX3_store_9 : decode cX3_store 9 = .ok (.iastore, 1) := by decide +kernel
theorem dX3_store_10 : decode cX3_store 10 = .ok (.aload_n 0, 1) := by decide +kernel
theorem dX3_store_11 : decode cX3_store 11 = .ok (.getfield 15, 3) := by decide +kernel
theorem dX3_store_14 : decode cX3_store 14 = .ok (.aload_n 0, 1) := by decide +kernel
theorem dX3_store_15 : decode cX3_store 15 = .ok (.getfield 21, 3) := by decide +kernel
theorem dX3_store_18 : decode cX3_store 18 = .ok (.iload_n 2, 1) := by decide +kernel
theorem dX3_store_19 : decode cX3_store 19 = .ok (.iastore, 1) := by decide +kernel
theorem dX3_store_20 : decode cX3_store 20 = .ok (.aload_n 0, 1) := by decide +kernel
theorem dX3_store_21 : decode cX3_store 21 = .ok (.getfield 18, 3) := by decide +kernel
theorem dX3_store_24 : decode cX3_store 24 = .ok (.aload_n 0, 1) := by decide +kernel
theorem dX3_store_25 : decode cX3_store 25 = .ok (.getfield 21, 3) := by decide +kernel
theorem dX3_store_28 : decode cX3_store 28 = .ok (.iload_n 3, 1) := by decide +kernel
theorem dX3_store_29 : decode cX3_store 29 = .ok (.iastore, 1) := by decide +kernel
theorem dX3_store_30 : decode cX3_store 30 = .ok (.aload_n 0, 1) := by decide +kernel
theorem dX3_store_31 : decode cX3_store 31 = .ok (.aload_n 0, 1) := by decide +kernel
theorem dX3_store_32 : decode cX3_store 32 = .ok (.getfield 21, 3) := by decide +kernel
theorem dX3_store_35 : decode cX3_store 35 = .ok (.iconst 1, 1) := by decide +kernel
theorem dX3_store_36 : decode cX3_store 36 = .ok (.iadd, 1) := by decide +kernel
theorem dX3_store_37 : decode cX3_store 37 = .ok (.bipush 6, 2) := by decide +kernel
theorem dX3_store_39 : decode cX3_store 39 = .ok (.irem, 1) := by decide +kernel
theorem dX3_store_40 : decode cX3_store 40 = .ok (.putfield 21, 3) := by decide +kernel
theorem dX3_store_43 : decode cX3_store 43 = .ok (.aload_n 0, 1) := by decide +kernel
theorem dX3_store_44 : decode cX3_store 44 = .ok (.aload_n 0, 1) := by decide +kernel
theorem dX3_store_45 : decode cX3_store 45 = .ok (.getfield 25, 3) := by decide +kernel
theorem dX3_store_48 : decode cX3_store 48 = .ok (.iconst 1, 1) := by decide +kernel
theorem dX3_store_49 : decode cX3_store 49 = .ok (.iadd, 1) := by decide +kernel
theorem dX3_store_50 : decode cX3_store 50 = .ok (.bipush 6, 2) := by decide +kernel
theorem dX3_store_52 : decode cX3_store 52 = .ok (.invokestatic 28, 3) := by decide +kernel
theorem dX3_store_55 : decode cX3_store 55 = .ok (.putfield 25, 3) := by decide +kernel
theorem dX3_store_58 : decode cX3_store 58 = .ok (.aload_n 0, 1) := by decide +kernel
theorem dX3_store_59 : decode cX3_store 59 = .ok (.getfield 25, 3) := by decide +kernel
theorem dX3_store_62 : decode cX3_store 62 = .ok (.ireturn, 1) := by decide +kernel
theorem dX3_countWeights_0 : decode cX3_countWeights 0 = .ok (.iconst 1, 1) := by decide +kernel
theorem dX3_countWeights_1 : decode cX3_countWeights 1 = .ok (.istore 4, 2) := by decide +kernel
theorem dX3_countWeights_3 : decode cX3_countWeights 3 = .ok (.bipush 99, 2) := by decide +kernel
theorem dX3_countWeights_5 : decode cX3_countWeights 5 = .ok (.istore 5, 2) := by decide +kernel
theorem dX3_countWeights_7 : decode cX3_countWeights 7 = .ok (.iconst 0, 1) := by decide +kernel
theorem dX3_countWeights_8 : decode cX3_countWeights 8 = .ok (.istore 6, 2) := by decide +kernel
theorem dX3_countWeights_10 : decode cX3_countWeights 10 = .ok (.iload 6, 2) := by decide +kernel
theorem dX3_countWeights_12 : decode cX3_countWeights 12 = .ok (.aload_n 0, 1) := by decide +kernel
theorem dX3_countWeights_13 : decode cX3_countWeights 13 = .ok (.getfield 25, 3) := by decide +kernel
theorem dX3_countWeights_16 : decode cX3_countWeights 16 = .ok (.if_icmp .ge 122, 3) := by decide +kernel
theorem dX3_countWeights_19 : decode cX3_countWeights 19 = .ok (.aload_n 0, 1) := by decide +kernel
theorem dX3_countWeights_20 : decode cX3_countWeights 20 = .ok (.getfield 18, 3) := by decide +kernel
theorem dX3_countWeights_23 : decode cX3_countWeights 23 = .ok (.iload 6, 2) := by decide +kernel
theorem dX3_countWeights_25 : decode cX3_countWeights 25 = .ok (.iaload, 1) := by decide +kernel
theorem dX3_countWeights_26 : decode cX3_countWeights 26 = .ok (.aload_n 1, 1) := by decide +kernel
theorem dX3_countWeights_27 : decode cX3_countWeights 27 = .ok (.aload_n 0, 1) := by decide +kernel
theorem dX3_countWeights_28 : decode cX3_countWeights 28 = .ok (.getfield 11, 3) := by decide +kernel
theorem dX3_countWeights_31 : decode cX3_countWeights 31 = .ok (.iload 6, 2) := by decide +kernel
theorem dX3_countWeights_33 : decode cX3_countWeights 33 = .ok (.iaload, 1) := by decide +kernel
theorem dX3_countWeights_34 : decode cX3_countWeights 34 = .ok (.aload_n 0, 1) := by decide +kernel
theorem dX3_countWeights_35 : decode cX3_countWeights 35 = .ok (.getfield 15, 3) := by decide +kernel
theorem dX3_countWeights_38 : decode cX3_countWeights 38 = .ok (.iload 6, 2) := by decide +kernel
theorem dX3_countWeights_40 : decode cX3_countWeights 40 = .ok (.iaload, 1) := by decide +kernel
theorem dX3_countWeights_41 : decode cX3_countWeights 41 = .ok (.invokevirtual 34, 3) := by decide +kernel
theorem dX3_countWeights_44 : decode cX3_countWeights 44 = .ok (.isub, 1) := by decide +kernel
theorem dX3_countWeights_45 : decode cX3_countWeights 45 = .ok (.istore 7, 2) := by decide +kernel
theorem dX3_countWeights_47 : decode cX3_countWeights 47 = .ok (.aload_n 1, 1) := by decide +kernel
theorem dX3_countWeights_48 : decode cX3_countWeights 48 = .ok (.aload_n 0, 1) := by decide +kernel
theorem dX3_countWeights_49 : decode cX3_countWeights 49 = .ok (.getfield 11, 3) := by decide +kernel
theorem dX3_countWeights_52 : decode cX3_countWeights 52 = .ok (.iload 6, 2) := by decide +kernel
theorem dX3_countWeights_54 : decode cX3_countWeights 54 = .ok (.iaload, 1) := by decide +kernel
theorem dX3_countWeights_55 : decode cX3_countWeights 55 = .ok (.aload_n 0, 1) := by decide +kernel
theorem dX3_countWeights_56 : decode cX3_countWeights 56 = .ok (.getfield 15, 3) := by decide +kernel
theorem dX3_countWeights_59 : decode cX3_countWeights 59 = .ok (.iload 6, 2) := by decide +kernel
theorem dX3_countWeights_61 : decode cX3_countWeights 61 = .ok (.iaload, 1) := by decide +kernel
theorem dX3_countWeights_62 : decode cX3_countWeights 62 = .ok (.invokevirtual 39, 3) := by decide +kernel
theorem dX3_countWeights_65 : decode cX3_countWeights 65 = .ok (.ifCond .ne 5, 3) := by decide +kernel
theorem dX3_countWeights_68 : decode cX3_countWeights 68 = .ok (.iconst 0, 1) := by decide +kernel
theorem dX3_countWeights_69 : decode cX3_countWeights 69 = .ok (.ireturn, 1) := by decide +kernel
theorem dX3_countWeights_70 : decode cX3_countWeights 70 = .ok (.aload_n 1, 1) := by decide +kernel
theorem dX3_countWeights_71 : decode cX3_countWeights 71 = .ok (.aload_n 0, 1) := by decide +kernel
theorem dX3_countWeights_72 : decode cX3_countWeights 72 = .ok (.getfield 11, 3) := by decide +kernel
theorem dX3_countWeights_75 : decode cX3_countWeights 75 = .ok (.iload 6, 2) := by decide +kernel
theorem dX3_countWeights_77 : decode cX3_countWeights 77 = .ok (.iaload, 1) := by decide +kernel
theorem dX3_countWeights_78 : decode cX3_countWeights 78 = .ok (.aload_n 0, 1) := by decide +kernel
theorem dX3_countWeights_79 : decode cX3_countWeights 79 = .ok (.getfield 15, 3) := by decide +kernel
theorem dX3_countWeights_82 : decode cX3_countWeights 82 = .ok (.iload 6, 2) := by decide +kernel
theorem dX3_countWeights_84 : decode cX3_countWeights 84 = .ok (.iaload, 1) := by decide +kernel
theorem dX3_countWeights_85 : decode cX3_countWeights 85 = .ok (.iload_n 2, 1) := by decide +kernel
theorem dX3_countWeights_86 : decode cX3_countWeights 86 = .ok (.iload_n 3, 1) := by decide +kernel
theorem dX3_countWeights_87 : decode cX3_countWeights 87 = .ok (.invokevirtual 43, 3) := by decide +kernel
theorem dX3_countWeights_90 : decode cX3_countWeights 90 = .ok (.ifCond .eq 35, 3) := by decide +kernel
theorem dX3_countWeights_93 : decode cX3_countWeights 93 = .ok (.aload_n 1, 1) := by decide +kernel
theorem dX3_countWeights_94 : decode cX3_countWeights 94 = .ok (.iload_n 2, 1) := by decide +kernel
theorem dX3_countWeights_95 : decode cX3_countWeights 95 = .ok (.iload_n 3, 1) := by decide +kernel
theorem dX3_countWeights_96 : decode cX3_countWeights 96 = .ok (.invokevirtual 47, 3) := by decide +kernel
theorem dX3_countWeights_99 : decode cX3_countWeights 99 = .ok (.iload 7, 2) := by decide +kernel
theorem dX3_countWeights_101 : decode cX3_countWeights 101 = .ok (.iadd, 1) := by decide +kernel
theorem dX3_countWeights_102 : decode cX3_countWeights 102 = .ok (.istore 8, 2) := by decide +kernel
theorem dX3_countWeights_104 : decode cX3_countWeights 104 = .ok (.iload 4, 2) := by decide +kernel
theorem dX3_countWeights_106 : decode cX3_countWeights 106 = .ok (.iload 8, 2) := by decide +kernel
theorem dX3_countWeights_108 : decode cX3_countWeights 108 = .ok (.invokestatic 50, 3) := by decide +kernel
theorem dX3_countWeights_111 : decode cX3_countWeights 111 = .ok (.istore 4, 2) := by decide +kernel
theorem dX3_countWeights_113 : decode cX3_countWeights 113 = .ok (.iload 5, 2) := by decide +kernel
theorem dX3_countWeights_115 : decode cX3_countWeights 115 = .ok (.iload 8, 2) := by decide +kernel
theorem dX3_countWeights_117 : decode cX3_countWeights 117 = .ok (.invokestatic 28, 3) := by decide +kernel
theorem dX3_countWeights_120 : decode cX3_countWeights 120 = .ok (.istore 5, 2) := by decide +kernel
theorem dX3_countWeights_122 : decode cX3_countWeights 122 = .ok (.goto 10, 3) := by decide +kernel
theorem dX3_countWeights_125 : decode cX3_countWeights 125 = .ok (.iload 7, 2) := by decide +kernel
theorem dX3_countWeights_127 : decode cX3_countWeights 127 = .ok (.ifCond .eq 5, 3) := by decide +kernel
theorem dX3_countWeights_130 : decode cX3_countWeights 130 = .ok (.iconst 0, 1) := by decide +kernel
theorem dX3_countWeights_131 : decode cX3_countWeights 131 = .ok (.ireturn, 1) := by decide +kernel
theorem dX3_countWeights_132 : decode cX3_countWeights 132 = .ok (.iinc 6 1, 3) := by decide +kernel
theorem dX3_countWeights_135 : decode cX3_countWeights 135 = .ok (.goto (-125), 3) := by decide +kernel
theorem dX3_countWeights_138 : decode cX3_countWeights 138 = .ok (.iconst 0, 1) := by decide +kernel
theorem dX3_countWeights_139 : decode cX3_countWeights 139 = .ok (.iload 5, 2) := by decide +kernel
theorem dX3_countWeights_141 : decode cX3_countWeights 141 = .ok (.iload 4, 2) := by decide +kernel
theorem dX3_countWeights_143 : decode cX3_countWeights 143 = .ok (.isub, 1) := by decide +kernel
theorem dX3_countWeights_144 : decode cX3_countWeights 144 = .ok (.iconst 1, 1) := by decide +kernel
theorem dX3_countWeights_145 : decode cX3_countWeights 145 = .ok (.iadd, 1) := by decide +kernel
theorem dX3_countWeights_146 : decode cX3_countWeights 146 = .ok (.invokestatic 50, 3) := by decide +kernel
theorem dX3_countWeights_149 : decode cX3_countWeights 149 = .ok (.ireturn, 1) := by decide +kernel
theorem dX4_init_0 : decode cX4_init 0 = .ok (.aload_n 0, 1) := by decide +kernel
theorem dX4_init_1 : decode cX4_init 1 = .ok (.invokespecial 3, 3) := by decide +kernel
theorem dX4_init_4 : decode cX4_init 4 = .ok (.aload_n 0, 1) := by decide +kernel
theorem dX4_init_5 : decode cX4_init 5 = .ok (.bipush 80, 2) := by decide +kernel
theorem dX4_init_7 : decode cX4_init 7 = .ok (.newarray .int, 2) := by decide +kernel
theorem dX4_init_9 : decode cX4_init 9 = .ok (.putfield 11, 3) := by decide +kernel
theorem dX4_init_12 : decode cX4_init 12 = .ok (.aload_n 0, 1) := by decide +kernel
theorem dX4_init_13 : decode cX4_init 13 = .ok (.bipush 12, 2) := by decide +kernel
theorem dX4_init_15 : decode cX4_init 15 = .ok (.newarray .int, 2) := by decide +kernel
theorem dX4_init_17 : decode cX4_init 17 = .ok (.putfield 15, 3) := by decide +kernel
theorem dX4_init_20 : decode cX4_init 20 = .ok (.return_, 1) := by decide +kernel
theorem dX4_size_0 : decode cX4_size 0 = .ok (.aload_n 0, 1) := by decide +kernel
theorem dX4_size_1 : decode cX4_size 1 = .ok (.getfield 18, 3) := by decide +kernel
theorem dX4_size_4 : decode cX4_size 4 = .ok (.ireturn, 1) := by decide +kernel
theorem dX4_put_0 : decode cX4_put 0 = .ok (.aload_n 0, 1) := by decide +kernel
theorem dX4_put_1 : decode cX4_put 1 = .ok (.getfield 18, 3) := by decide +kernel
theorem dX4_put_4 : decode cX4_put 4 = .ok (.bipush 80, 2) := by decide +kernel
theorem dX4_put_6 : decode cX4_put 6 = .ok (.if_icmp .lt 5, 3) := by decide +kernel
theorem dX4_put_9 : decode cX4_put 9 = .ok (.iconst 0, 1) := by decide +kernel
theorem dX4_put_10 : decode cX4_put 10 = .ok (.ireturn, 1) := by decide +kernel
theorem dX4_put_11 : decode cX4_put 11 = .ok (.aload_n 0, 1) := by decide +kernel
theorem dX4_put_12 : decode cX4_put 12 = .ok (.getfield 11, 3) := by decide +kernel
theorem dX4_put_15 : decode cX4_put 15 = .ok (.aload_n 0, 1) := by decide +kernel
theorem dX4_put_16 : decode cX4_put 16 = .ok (.getfield 18, 3) := by decide +kernel
theorem dX4_put_19 : decode cX4_put 19 = .ok (.iload_n 1, 1) := by decide +kernel
theorem dX4_put_20 : decode cX4_put 20 = .ok (.iastore, 1) := by decide +kernel
theorem dX4_put_21 : decode cX4_put 21 = .ok (.aload_n 0, 1) := by decide +kernel
theorem dX4_put_22 : decode cX4_put 22 = .ok (.dup, 1) := by decide +kernel
theorem dX4_put_23 : decode cX4_put 23 = .ok (.getfield 18, 3) := by decide +kernel
theorem dX4_put_26 : decode cX4_put 26 = .ok (.iconst 1, 1) := by decide +kernel
theorem dX4_put_27 : decode cX4_put 27 = .ok (.iadd, 1) := by decide +kernel
theorem dX4_put_28 : decode cX4_put 28 = .ok (.putfield 18, 3) := by decide +kernel
theorem dX4_put_31 : decode cX4_put 31 = .ok (.iconst 1, 1) := by decide +kernel
theorem dX4_put_32 : decode cX4_put 32 = .ok (.ireturn, 1) := by decide +kernel
theorem dX4_empty_0 : decode cX4_empty 0 = .ok (.aload_n 0, 1) := by decide +kernel
theorem dX4_empty_1 : decode cX4_empty 1 = .ok (.iconst 0, 1) := by decide +kernel
theorem dX4_empty_2 : decode cX4_empty 2 = .ok (.putfield 18, 3) := by decide +kernel
theorem dX4_empty_5 : decode cX4_empty 5 = .ok (.return_, 1) := by decide +kernel
theorem dX4_readInto_0 : decode cX4_readInto 0 = .ok (.aload_n 0, 1) := by decide +kernel
theorem dX4_readInto_1 : decode cX4_readInto 1 = .ok (.iconst 0, 1) := by decide +kernel
theorem dX4_readInto_2 : decode cX4_readInto 2 = .ok (.putfield 22, 3) := by decide +kernel
theorem dX4_readInto_5 : decode cX4_readInto 5 = .ok (.aload_n 0, 1) := by decide +kernel
theorem dX4_readInto_6 : decode cX4_readInto 6 = .ok (.bipush 70, 2) := by decide +kernel
theorem dX4_readInto_8 : decode cX4_readInto 8 = .ok (.bipush 70, 2) := by decide +kernel
theorem dX4_readInto_10 : decode cX4_readInto 10 = .ok (.invokevirtual 25, 3) := by decide +kernel
theorem dX4_readInto_13 : decode cX4_readInto 13 = .ok (.iconst (-1), 1) := by decide +kernel
theorem dX4_readInto_14 : decode cX4_readInto 14 = .ok (.if_icmp .ne 8, 3) := by decide +kernel
theorem dX4_readInto_17 : decode cX4_readInto 17 = .ok (.aload_n 0, 1) := by decide +kernel
theorem dX4_readInto_18 : decode cX4_readInto 18 = .ok (.getfield 22, 3) := by decide +kernel
theorem dX4_readInto_21 : decode cX4_readInto 21 = .ok (.ireturn, 1) := by decide +kernel
theorem dX4_readInto_22 : decode cX4_readInto 22 = .ok (.aload_n 0, 1) := by decide +kernel
theorem dX4_readInto_23 : decode cX4_readInto 23 = .ok (.iconst 1, 1) := by decide +kernel
theorem dX4_readInto_24 : decode cX4_readInto 24 = .ok (.bipush 12, 2) := by decide +kernel
theorem dX4_readInto_26 : decode cX4_readInto 26 = .ok (.invokevirtual 29, 3) := by decide +kernel
theorem dX4_readInto_29 : decode cX4_readInto 29 = .ok (.istore_n 2, 1) := by decide +kernel
theorem dX4_readInto_30 : decode cX4_readInto 30 = .ok (.iload_n 2, 1) := by decide +kernel
theorem dX4_readInto_31 : decode cX4_readInto 31 = .ok (.iconst (-1), 1) := by decide +kernel
theorem dX4_readInto_32 : decode cX4_readInto 32 = .ok (.if_icmp .ne 8, 3) := by decide +kernel
theorem dX4_readInto_35 : decode cX4_readInto 35 = .ok (.aload_n 0, 1) := by decide +kernel
theorem dX4_readInto_36 : decode cX4_readInto 36 = .ok (.getfield 22, 3) := by decide +kernel
theorem dX4_readInto_39 : decode cX4_readInto 39 = .ok (.ireturn, 1) := by decide +kernel
theorem dX4_readInto_40 : decode cX4_readInto 40 = .ok (.aload_n 1, 1) := by decide +kernel
theorem dX4_readInto_41 : decode cX4_readInto 41 = .ok (.iload_n 2, 1) := by decide +kernel
theorem dX4_readInto_42 : decode cX4_readInto 42 = .ok (.invokevirtual 32, 3) := by decide +kernel
theorem dX4_readInto_45 : decode cX4_readInto 45 = .ok (.aload_n 0, 1) := by decide +kernel
theorem dX4_readInto_46 : decode cX4_readInto 46 = .ok (.aload_n 1, 1) := by decide +kernel
theorem dX4_readInto_47 : decode cX4_readInto 47 = .ok (.invokevirtual 38, 3) := by decide +kernel
theorem dX4_readInto_50 : decode cX4_readInto 50 = .ok (.ifCond .eq 16, 3) := by decide +kernel
theorem dX4_readInto_53 : decode cX4_readInto 53 = .ok (.aload_n 0, 1) := by decide +kernel
theorem dX4_readInto_54 : decode cX4_readInto 54 = .ok (.aload_n 1, 1) := by decide +kernel
theorem dX4_readInto_55 : decode cX4_readInto 55 = .ok (.invokevirtual 42, 3) := by decide +kernel
theorem dX4_readInto_58 : decode cX4_readInto 58 = .ok (.ifCond .eq 8, 3) := by decide +kernel
theorem dX4_readInto_61 : decode cX4_readInto 61 = .ok (.bipush (-9), 2) := by decide +kernel
theorem dX4_readInto_63 : decode cX4_readInto 63 = .ok (.goto 7, 3) := by decide +kernel
theorem dX4_readInto_66 : decode cX4_readInto 66 = .ok (.aload_n 0, 1) := by decide +kernel
theorem dX4_readInto_67 : decode cX4_readInto 67 = .ok (.getfield 22, 3) := by decide +kernel
theorem dX4_readInto_70 : decode cX4_readInto 70 = .ok (.ireturn, 1) := by decide +kernel
theorem dX4_takeWeights_0 : decode cX4_takeWeights 0 = .ok (.iconst 0, 1) := by decide +kernel
theorem dX4_takeWeights_1 : decode cX4_takeWeights 1 = .ok (.istore_n 2, 1) := by decide +kernel
theorem dX4_takeWeights_2 : decode cX4_takeWeights 2 = .ok (.iload_n 2, 1) := by decide +kernel
theorem dX4_takeWeights_3 : decode cX4_takeWeights 3 = .ok (.aload_n 1, 1) := by decide +kernel
theorem dX4_takeWeights_4 : decode cX4_takeWeights 4 = .ok (.invokevirtual 45, 3) := by decide +kernel
theorem dX4_takeWeights_7 : decode cX4_takeWeights 7 = .ok (.if_icmp .ge 30, 3) := by decide +kernel
theorem dX4_takeWeights_10 : decode cX4_takeWeights 10 = .ok (.aload_n 0, 1) := by decide +kernel
theorem dX4_takeWeights_11 : decode cX4_takeWeights 11 = .ok (.iconst 0, 1) := by decide +kernel
theorem dX4_takeWeights_12 : decode cX4_takeWeights 12 = .ok (.bipush 99, 2) := by decide +kernel
theorem dX4_takeWeights_14 : decode cX4_takeWeights 14 = .ok (.invokevirtual 29, 3) := by decide +kernel
theorem dX4_takeWeights_17 : decode cX4_takeWeights 17 = .ok (.istore_n 3, 1) := by decide +kernel
theorem dX4_takeWeights_18 : decode cX4_takeWeights 18 = .ok (.iload_n 3, 1) := by decide +kernel
theorem dX4_takeWeights_19 : decode cX4_takeWeights 19 = .ok (.iconst (-1), 1) := by decide +kernel
theorem dX4_takeWeights_20 : decode cX4_takeWeights 20 = .ok (.if_icmp .ne 5, 3) := by decide +kernel
theorem dX4_takeWeights_23 : decode cX4_takeWeights 23 = .ok (.iconst 0, 1) := by decide +kernel
theorem dX4_takeWeights_24 : decode cX4_takeWeights 24 = .ok (.ireturn, 1) := by decide +kernel
theorem dX4_takeWeights_25 : decode cX4_takeWeights 25 = .ok (.aload_n 1, 1) := by decide +kernel
theorem dX4_takeWeights_26 : decode cX4_takeWeights 26 = .ok (.iload_n 2, 1) := by decide +kernel
theorem dX4_takeWeights_27 : decode cX4_takeWeights 27 = .ok (.iload_n 3, 1) := by decide +kernel
theorem dX4_takeWeights_28 : decode cX4_takeWeights 28 = .ok (.invokevirtual 49, 3) := by decide +kernel
theorem dX4_takeWeights_31 : decode cX4_takeWeights 31 = .ok (.iinc 2 1, 3) := by decide +kernel
theorem dX4_takeWeights_34 : decode cX4_takeWeights 34 = .ok (.goto (-32), 3) := by decide +kernel
theorem dX4_takeWeights_37 : decode cX4_takeWeights 37 = .ok (.iconst 1, 1) := by decide +kernel
theorem dX4_takeWeights_38 : decode cX4_takeWeights 38 = .ok (.ireturn, 1) := by decide +kernel
theorem dX4_takeEdges_0 : decode cX4_takeEdges 0 = .ok (.iconst 0, 1) := by decide +kernel
theorem dX4_takeEdges_1 : decode cX4_takeEdges 1 = .ok (.istore_n 2, 1) := by decide +kernel
theorem dX4_takeEdges_2 : decode cX4_takeEdges 2 = .ok (.iload_n 2, 1) := by decide +kernel
theorem dX4_takeEdges_3 : decode cX4_takeEdges 3 = .ok (.bipush 12, 2) := by decide +kernel
theorem dX4_takeEdges_5 : decode cX4_takeEdges 5 = .ok (.if_icmp .ge 16, 3) := by decide +kernel
theorem dX4_takeEdges_8 : decode cX4_takeEdges 8 = .ok (.aload_n 0, 1) := by decide +kernel
theorem dX4_takeEdges_9 : decode cX4_takeEdges 9 = .ok (.getfield 15, 3) := by decide +kernel
theorem dX4_takeEdges_12 : decode cX4_takeEdges 12 = .ok (.iload_n 2, 1) := by decide +kernel
theorem dX4_takeEdges_13 : decode cX4_takeEdges 13 = .ok (.iload_n 2, 1) := by decide +kernel
theorem dX4_takeEdges_14 : decode cX4_takeEdges 14 = .ok (.iastore, 1) := by decide +kernel
theorem dX4_takeEdges_15 : decode cX4_takeEdges 15 = .ok (.iinc 2 1, 3) := by decide +kernel
theorem dX4_takeEdges_18 : decode cX4_takeEdges 18 = .ok (.goto (-16), 3) := by decide +kernel
theorem dX4_takeEdges_21 : decode cX4_takeEdges 21 = .ok (.iconst 0, 1) := by decide +kernel
theorem dX4_takeEdges_22 : decode cX4_takeEdges 22 = .ok (.istore_n 2, 1) := by decide +kernel
theorem dX4_takeEdges_23 : decode cX4_takeEdges 23 = .ok (.iload_n 2, 1) := by decide +kernel
theorem dX4_takeEdges_24 : decode cX4_takeEdges 24 = .ok (.bipush 12, 2) := by decide +kernel
theorem dX4_takeEdges_26 : decode cX4_takeEdges 26 = .ok (.if_icmp .ge 30, 3) := by decide +kernel
theorem dX4_takeEdges_29 : decode cX4_takeEdges 29 = .ok (.aload_n 0, 1) := by decide +kernel
theorem dX4_takeEdges_30 : decode cX4_takeEdges 30 = .ok (.getfield 22, 3) := by decide +kernel
theorem dX4_takeEdges_33 : decode cX4_takeEdges 33 = .ok (.aload_n 0, 1) := by decide +kernel
theorem dX4_takeEdges_34 : decode cX4_takeEdges 34 = .ok (.getfield 18, 3) := by decide +kernel
theorem dX4_takeEdges_37 : decode cX4_takeEdges 37 = .ok (.if_icmp .ge 19, 3) := by decide +kernel
theorem dX4_takeEdges_40 : decode cX4_takeEdges 40 = .ok (.aload_n 0, 1) := by decide +kernel
theorem dX4_takeEdges_41 : decode cX4_takeEdges 41 = .ok (.aload_n 1, 1) := by decide +kernel
theorem dX4_takeEdges_42 : decode cX4_takeEdges 42 = .ok (.invokevirtual 53, 3) := by decide +kernel
theorem dX4_takeEdges_45 : decode cX4_takeEdges 45 = .ok (.ifCond .ne 5, 3) := by decide +kernel
theorem dX4_takeEdges_48 : decode cX4_takeEdges 48 = .ok (.iconst 0, 1) := by decide +kernel
theorem dX4_takeEdges_49 : decode cX4_takeEdges 49 = .ok (.ireturn, 1) := by decide +kernel
theorem dX4_takeEdges_50 : decode cX4_takeEdges 50 = .ok (.iinc 2 1, 3) := by decide +kernel
theorem dX4_takeEdges_53 : decode cX4_takeEdges 53 = .ok (.goto (-30), 3) := by decide +kernel
theorem dX4_takeEdges_56 : decode cX4_takeEdges 56 = .ok (.iconst 1, 1) := by decide +kernel
theorem dX4_takeEdges_57 : decode cX4_takeEdges 57 = .ok (.ireturn, 1) := by decide +kernel
theorem dX4_takeEdge_0 : decode cX4_takeEdge 0 = .ok (.bipush 97, 2) := by decide +kernel
theorem dX4_takeEdge_2 : decode cX4_takeEdge 2 = .ok (.aload_n 1, 1) := by decide +kernel
theorem dX4_takeEdge_3 : decode cX4_takeEdge 3 = .ok (.invokevirtual 45, 3) := by decide +kernel
theorem dX4_takeEdge_6 : decode cX4_takeEdge 6 = .ok (.iadd, 1) := by decide +kernel
theorem dX4_takeEdge_7 : decode cX4_takeEdge 7 = .ok (.iconst 1, 1) := by decide +kernel
theorem dX4_takeEdge_8 : decode cX4_takeEdge 8 = .ok (.isub, 1) := by decide +kernel
theorem dX4_takeEdge_9 : decode cX4_takeEdge 9 = .ok (.istore_n 2, 1) := by decide +kernel
theorem dX4_takeEdge_10 : decode cX4_takeEdge 10 = .ok (.aload_n 0, 1) := by decide +kernel
theorem dX4_takeEdge_11 : decode cX4_takeEdge 11 = .ok (.bipush 97, 2) := by decide +kernel
theorem dX4_takeEdge_13 : decode cX4_takeEdge 13 = .ok (.iload_n 2, 1) := by decide +kernel
theorem dX4_takeEdge_14 : decode cX4_takeEdge 14 = .ok (.invokevirtual 25, 3) := by decide +kernel
theorem dX4_takeEdge_17 : decode cX4_takeEdge 17 = .ok (.istore_n 3, 1) := by decide +kernel
theorem dX4_takeEdge_18 : decode cX4_takeEdge 18 = .ok (.iload_n 3, 1) := by decide +kernel
theorem dX4_takeEdge_19 : decode cX4_takeEdge 19 = .ok (.iconst (-1), 1) := by decide +kernel
theorem dX4_takeEdge_20 : decode cX4_takeEdge 20 = .ok (.if_icmp .ne 7, 3) := by decide +kernel
theorem dX4_takeEdge_23 : decode cX4_takeEdge 23 = .ok (.iconst (-1), 1) := by decide +kernel
theorem dX4_takeEdge_24 : decode cX4_takeEdge 24 = .ok (.goto 10, 3) := by decide +kernel
theorem dX4_takeEdge_27 : decode cX4_takeEdge 27 = .ok (.aload_n 0, 1) := by decide +kernel
theorem dX4_takeEdge_28 : decode cX4_takeEdge 28 = .ok (.bipush 97, 2) := by decide +kernel
theorem dX4_takeEdge_30 : decode cX4_takeEdge 30 = .ok (.iload_n 2, 1) := by decide +kernel
theorem dX4_takeEdge_31 : decode cX4_takeEdge 31 = .ok (.invokevirtual 25, 3) := by decide +kernel
theorem dX4_takeEdge_34 : decode cX4_takeEdge 34 = .ok (.istore 4, 2) := by decide +kernel
theorem dX4_takeEdge_36 : decode cX4_takeEdge 36 = .ok (.iload_n 3, 1) := by decide +kernel
theorem dX4_takeEdge_37 : decode cX4_takeEdge 37 = .ok (.iconst (-1), 1) := by decide +kernel
theorem dX4_takeEdge_38 : decode cX4_takeEdge 38 = .ok (.if_icmp .eq 9, 3) := by decide +kernel
theorem dX4_takeEdge_41 : decode cX4_takeEdge 41 = .ok (.iload 4, 2) := by decide +kernel
theorem dX4_takeEdge_43 : decode cX4_takeEdge 43 = .ok (.iconst (-1), 1) := by decide +kernel
theorem dX4_takeEdge_44 : decode cX4_takeEdge 44 = .ok (.if_icmp .ne 5, 3) := by decide +kernel
theorem dX4_takeEdge_47 : decode cX4_takeEdge 47 = .ok (.iconst 0, 1) := by decide +kernel
theorem dX4_takeEdge_48 : decode cX4_takeEdge 48 = .ok (.ireturn, 1) := by decide +kernel
theorem dX4_takeEdge_49 : decode cX4_takeEdge 49 = .ok (.aload_n 0, 1) := by decide +kernel
theorem dX4_takeEdge_50 : decode cX4_takeEdge 50 = .ok (.getfield 15, 3) := by decide +kernel
theorem dX4_takeEdge_53 : decode cX4_takeEdge 53 = .ok (.iload_n 3, 1) := by decide +kernel
theorem dX4_takeEdge_54 : decode cX4_takeEdge 54 = .ok (.iaload, 1) := by decide +kernel
theorem dX4_takeEdge_55 : decode cX4_takeEdge 55 = .ok (.aload_n 0, 1) := by decide +kernel
theorem dX4_takeEdge_56 : decode cX4_takeEdge 56 = .ok (.getfield 15, 3) := by decide +kernel
theorem dX4_takeEdge_59 : decode cX4_takeEdge 59 = .ok (.iload 4, 2) := by decide +kernel
theorem dX4_takeEdge_61 : decode cX4_takeEdge 61 = .ok (.iaload, 1) := by decide +kernel
theorem dX4_takeEdge_62 : decode cX4_takeEdge 62 = .ok (.if_icmp .ne 15, 3) := by decide +kernel
theorem dX4_takeEdge_65 : decode cX4_takeEdge 65 = .ok (.aload_n 0, 1) := by decide +kernel
theorem dX4_takeEdge_66 : decode cX4_takeEdge 66 = .ok (.dup, 1) := by decide +kernel
theorem dX4_takeEdge_67 : decode cX4_takeEdge 67 = .ok (.getfield 22, 3) := by decide +kernel
theorem dX4_takeEdge_70 : decode cX4_takeEdge 70 = .ok (.iconst 1, 1) := by decide +kernel
theorem dX4_takeEdge_71 : decode cX4_takeEdge 71 = .ok (.isub, 1) := by decide +kernel
theorem dX4_takeEdge_72 : decode cX4_takeEdge 72 = .ok (.putfield 22, 3) := by decide +kernel
theorem dX4_takeEdge_75 : decode cX4_takeEdge 75 = .ok (.iconst 0, 1) := by decide +kernel
theorem dX4_takeEdge_76 : decode cX4_takeEdge 76 = .ok (.ireturn, 1) := by decide +kernel
theorem dX4_takeEdge_77 : decode cX4_takeEdge 77 = .ok (.aload_n 0, 1) := by decide +kernel
theorem dX4_takeEdge_78 : decode cX4_takeEdge 78 = .ok (.iconst 1, 1) := by decide +kernel
theorem dX4_takeEdge_79 : decode cX4_takeEdge 79 = .ok (.bipush 99, 2) := by decide +kernel
theorem dX4_takeEdge_81 : decode cX4_takeEdge 81 = .ok (.invokevirtual 29, 3) := by decide +kernel
theorem dX4_takeEdge_84 : decode cX4_takeEdge 84 = .ok (.istore 5, 2) := by decide +kernel
theorem dX4_takeEdge_86 : decode cX4_takeEdge 86 = .ok (.iload 5, 2) := by decide +kernel
theorem dX4_takeEdge_88 : decode cX4_takeEdge 88 = .ok (.iconst (-1), 1) := by decide +kernel
theorem dX4_takeEdge_89 : decode cX4_takeEdge 89 = .ok (.if_icmp .ne 5, 3) := by decide +kernel
theorem dX4_takeEdge_92 : decode cX4_takeEdge 92 = .ok (.iconst 0, 1) := by decide +kernel
theorem dX4_takeEdge_93 : decode cX4_takeEdge 93 = .ok (.ireturn, 1) := by decide +kernel
theorem dX4_takeEdge_94 : decode cX4_takeEdge 94 = .ok (.aload_n 1, 1) := by decide +kernel
theorem dX4_takeEdge_95 : decode cX4_takeEdge 95 = .ok (.iload_n 3, 1) := by decide +kernel
theorem dX4_takeEdge_96 : decode cX4_takeEdge 96 = .ok (.iload 4, 2) := by decide +kernel
theorem dX4_takeEdge_98 : decode cX4_takeEdge 98 = .ok (.iload 5, 2) := by decide +kernel
theorem dX4_takeEdge_100 : decode cX4_takeEdge 100 = .ok (.invokevirtual 56, 3) := by decide +kernel
theorem dX4_takeEdge_103 : decode cX4_takeEdge 103 = .ok (.aload_n 0, 1) := by decide +kernel
theorem dX4_takeEdge_104 : decode cX4_takeEdge 104 = .ok (.aload_n 0, 1) := by decide +kernel
theorem dX4_takeEdge_105 : decode cX4_takeEdge 105 = .ok (.getfield 15, 3) := by decide +kernel
theorem dX4_takeEdge_108 : decode cX4_takeEdge 108 = .ok (.iload_n 3, 1) := by decide +kernel
theorem dX4_takeEdge_109 : decode cX4_takeEdge 109 = .ok (.iaload, 1) := by decide +kernel
theorem dX4_takeEdge_110 : decode cX4_takeEdge 110 = .ok (.aload_n 0, 1) := by decide +kernel
theorem dX4_takeEdge_111 : decode cX4_takeEdge 111 = .ok (.getfield 15, 3) := by decide +kernel
theorem dX4_takeEdge_114 : decode cX4_takeEdge 114 = .ok (.iload 4, 2) := by decide +kernel
theorem dX4_takeEdge_116 : decode cX4_takeEdge 116 = .ok (.iaload, 1) := by decide +kernel
theorem dX4_takeEdge_117 : decode cX4_takeEdge 117 = .ok (.invokevirtual 60, 3) := by decide +kernel
theorem dX4_takeEdge_120 : decode cX4_takeEdge 120 = .ok (.iconst 1, 1) := by decide +kernel
theorem dX4_takeEdge_121 : decode cX4_takeEdge 121 = .ok (.ireturn, 1) := by decide +kernel
theorem dX4_joinTrees_0 : decode cX4_joinTrees 0 = .ok (.iconst 0, 1) := by decide +kernel
theorem dX4_joinTrees_1 : decode cX4_joinTrees 1 = .ok (.istore_n 3, 1) := by decide +kernel
theorem dX4_joinTrees_2 : decode cX4_joinTrees 2 = .ok (.iload_n 3, 1) := by decide +kernel
theorem dX4_joinTrees_3 : decode cX4_joinTrees 3 = .ok (.bipush 12, 2) := by decide +kernel
theorem dX4_joinTrees_5 : decode cX4_joinTrees 5 = .ok (.if_icmp .ge 26, 3) := by decide +kernel
theorem dX4_joinTrees_8 : decode cX4_joinTrees 8 = .ok (.aload_n 0, 1) := by decide +kernel
theorem dX4_joinTrees_9 : decode cX4_joinTrees 9 = .ok (.getfield 15, 3) := by decide +kernel
theorem dX4_joinTrees_12 : decode cX4_joinTrees 12 = .ok (.iload_n 3, 1) := by decide +kernel
theorem dX4_joinTrees_13 : decode cX4_joinTrees 13 = .ok (.iaload, 1) := by decide +kernel
theorem dX4_joinTrees_14 : decode cX4_joinTrees 14 = .ok (.iload_n 2, 1) := by decide +kernel
theorem dX4_joinTrees_15 : decode cX4_joinTrees 15 = .ok (.if_icmp .ne 10, 3) := by decide +kernel
theorem dX4_joinTrees_18 : decode cX4_joinTrees 18 = .ok (.aload_n 0, 1) := by decide +kernel
theorem dX4_joinTrees_19 : decode cX4_joinTrees 19 = .ok (.getfield 15, 3) := by decide +kernel
theorem dX4_joinTrees_22 : decode cX4_joinTrees 22 = .ok (.iload_n 3, 1) := by decide +kernel
theorem dX4_joinTrees_23 : decode cX4_joinTrees 23 = .ok (.iload_n 1, 1) := by decide +kernel
theorem dX4_joinTrees_24 : decode cX4_joinTrees 24 = .ok (.iastore, 1) := by decide +kernel
theorem dX4_joinTrees_25 : decode cX4_joinTrees 25 = .ok (.iinc 3 1, 3) := by decide +kernel
theorem dX4_joinTrees_28 : decode cX4_joinTrees 28 = .ok (.goto (-26), 3) := by decide +kernel
theorem dX4_joinTrees_31 : decode cX4_joinTrees 31 = .ok (.return_, 1) := by decide +kernel
theorem dX4_takeNumber_0 : decode cX4_takeNumber 0 = .ok (.aload_n 0, 1) := by decide +kernel
theorem dX4_takeNumber_1 : decode cX4_takeNumber 1 = .ok (.bipush 48, 2) := by decide +kernel
theorem dX4_takeNumber_3 : decode cX4_takeNumber 3 = .ok (.bipush 48, 2) := by decide +kernel
theorem dX4_takeNumber_5 : decode cX4_takeNumber 5 = .ok (.iload_n 2, 1) := by decide +kernel
theorem dX4_takeNumber_6 : decode cX4_takeNumber 6 = .ok (.bipush 10, 2) := by decide +kernel
theorem dX4_takeNumber_8 : decode cX4_takeNumber 8 = .ok (.idiv, 1) := by decide +kernel
theorem dX4_takeNumber_9 : decode cX4_takeNumber 9 = .ok (.iadd, 1) := by decide +kernel
theorem dX4_takeNumber_10 : decode cX4_takeNumber 10 = .ok (.invokevirtual 25, 3) := by decide +kernel
theorem dX4_takeNumber_13 : decode cX4_takeNumber 13 = .ok (.istore_n 3, 1) := by decide +kernel
theorem dX4_takeNumber_14 : decode cX4_takeNumber 14 = .ok (.iload_n 3, 1) := by decide +kernel
theorem dX4_takeNumber_15 : decode cX4_takeNumber 15 = .ok (.iconst (-1), 1) := by decide +kernel
theorem dX4_takeNumber_16 : decode cX4_takeNumber 16 = .ok (.if_icmp .ne 5, 3) := by decide +kernel
theorem dX4_takeNumber_19 : decode cX4_takeNumber 19 = .ok (.iconst (-1), 1) := by decide +kernel
theorem dX4_takeNumber_20 : decode cX4_takeNumber 20 = .ok (.ireturn, 1) := by decide +kernel
theorem dX4_takeNumber_21 : decode cX4_takeNumber 21 = .ok (.iload_n 3, 1) := by decide +kernel
theorem dX4_takeNumber_22 : decode cX4_takeNumber 22 = .ok (.ifCond .ne 7, 3) := by decide +kernel
theorem dX4_takeNumber_25 : decode cX4_takeNumber 25 = .ok (.iload_n 1, 1) := by decide +kernel
theorem dX4_takeNumber_26 : decode cX4_takeNumber 26 = .ok (.goto 4, 3) := by decide +kernel
theorem dX4_takeNumber_29 : decode cX4_takeNumber 29 = .ok (.iconst 0, 1) := by decide +kernel
theorem dX4_takeNumber_30 : decode cX4_takeNumber 30 = .ok (.istore 4, 2) := by decide +kernel
theorem dX4_takeNumber_32 : decode cX4_takeNumber 32 = .ok (.iload_n 3, 1) := by decide +kernel
theorem dX4_takeNumber_33 : decode cX4_takeNumber 33 = .ok (.iload_n 2, 1) := by decide +kernel
theorem dX4_takeNumber_34 : decode cX4_takeNumber 34 = .ok (.bipush 10, 2) := by decide +kernel
theorem dX4_takeNumber_36 : decode cX4_takeNumber 36 = .ok (.idiv, 1) := by decide +kernel
theorem dX4_takeNumber_37 : decode cX4_takeNumber 37 = .ok (.if_icmp .ne 10, 3) := by decide +kernel
theorem dX4_takeNumber_40 : decode cX4_takeNumber 40 = .ok (.iload_n 2, 1) := by decide +kernel
theorem dX4_takeNumber_41 : decode cX4_takeNumber 41 = .ok (.bipush 10, 2) := by decide +kernel
theorem dX4_takeNumber_43 : decode cX4_takeNumber 43 = .ok (.irem, 1) := by decide +kernel
theorem dX4_takeNumber_44 : decode cX4_takeNumber 44 = .ok (.goto 5, 3) := by decide +kernel
theorem dX4_takeNumber_47 : decode cX4_takeNumber 47 = .ok (.bipush 9, 2) := by decide +kernel
theorem dX4_takeNumber_49 : decode cX4_takeNumber 49 = .ok (.istore 5, 2) := by decide +kernel
theorem dX4_takeNumber_51 : decode cX4_takeNumber 51 = .ok (.aload_n 0, 1) := by decide +kernel
theorem dX4_takeNumber_52 : decode cX4_takeNumber 52 = .ok (.bipush 48, 2) := by decide +kernel
theorem dX4_takeNumber_54 : decode cX4_takeNumber 54 = .ok (.iload 4, 2) := by decide +kernel
theorem dX4_takeNumber_56 : decode cX4_takeNumber 56 = .ok (.iadd, 1) := by decide +kernel
theorem dX4_takeNumber_57 : decode cX4_takeNumber 57 = .ok (.bipush 48, 2) := by decide +kernel
theorem dX4_takeNumber_59 : decode cX4_takeNumber 59 = .ok (.iload 5, 2) := by decide +kernel
theorem dX4_takeNumber_61 : decode cX4_takeNumber 61 = .ok (.iadd, 1) := by decide +kernel
theorem dX4_takeNumber_62 : decode cX4_takeNumber 62 = .ok (.invokevirtual 25, 3) := by decide +kernel
theorem dX4_takeNumber_65 : decode cX4_takeNumber 65 = .ok (.istore 6, 2) := by decide +kernel
theorem dX4_takeNumber_67 : decode cX4_takeNumber 67 = .ok (.iload 6, 2) := by decide +kernel
theorem dX4_takeNumber_69 : decode cX4_takeNumber 69 = .ok (.iconst (-1), 1) := by decide +kernel
theorem dX4_takeNumber_70 : decode cX4_takeNumber 70 = .ok (.if_icmp .ne 7, 3) := by decide +kernel
theorem dX4_takeNumber_73 : decode cX4_takeNumber 73 = .ok (.iconst (-1), 1) := by decide +kernel
theorem dX4_takeNumber_74 : decode cX4_takeNumber 74 = .ok (.goto 13, 3) := by decide +kernel
theorem dX4_takeNumber_77 : decode cX4_takeNumber 77 = .ok (.bipush 10, 2) := by decide +kernel
theorem dX4_takeNumber_79 : decode cX4_takeNumber 79 = .ok (.iload_n 3, 1) := by decide +kernel
theorem dX4_takeNumber_80 : decode cX4_takeNumber 80 = .ok (.imul, 1) := by decide +kernel
theorem dX4_takeNumber_81 : decode cX4_takeNumber 81 = .ok (.iload 4, 2) := by decide +kernel
theorem dX4_takeNumber_83 : decode cX4_takeNumber 83 = .ok (.iadd, 1) := by decide +kernel
theorem dX4_takeNumber_84 : decode cX4_takeNumber 84 = .ok (.iload 6, 2) := by decide +kernel
theorem dX4_takeNumber_86 : decode cX4_takeNumber 86 = .ok (.iadd, 1) := by decide +kernel
theorem dX4_takeNumber_87 : decode cX4_takeNumber 87 = .ok (.ireturn, 1) := by decide +kernel
theorem dX4_take_0 : decode cX4_take 0 = .ok (.aload_n 0, 1) := by decide +kernel
theorem dX4_take_1 : decode cX4_take 1 = .ok (.getfield 22, 3) := by decide +kernel
theorem dX4_take_4 : decode cX4_take 4 = .ok (.aload_n 0, 1) := by decide +kernel
theorem dX4_take_5 : decode cX4_take 5 = .ok (.getfield 18, 3) := by decide +kernel
theorem dX4_take_8 : decode cX4_take 8 = .ok (.if_icmp .lt 5, 3) := by decide +kernel
theorem dX4_take_11 : decode cX4_take 11 = .ok (.iconst (-1), 1) := by decide +kernel
theorem dX4_take_12 : decode cX4_take 12 = .ok (.ireturn, 1) := by decide +kernel
theorem dX4_take_13 : decode cX4_take 13 = .ok (.aload_n 0, 1) := by decide +kernel
theorem dX4_take_14 : decode cX4_take 14 = .ok (.getfield 11, 3) := by decide +kernel
theorem dX4_take_17 : decode cX4_take 17 = .ok (.aload_n 0, 1) := by decide +kernel
theorem dX4_take_18 : decode cX4_take 18 = .ok (.getfield 22, 3) := by decide +kernel
theorem dX4_take_21 : decode cX4_take 21 = .ok (.iaload, 1) := by decide +kernel
theorem dX4_take_22 : decode cX4_take 22 = .ok (.istore_n 3, 1) := by decide +kernel
theorem dX4_take_23 : decode cX4_take 23 = .ok (.iload_n 3, 1) := by decide +kernel
theorem dX4_take_24 : decode cX4_take 24 = .ok (.iload_n 1, 1) := by decide +kernel
theorem dX4_take_25 : decode cX4_take 25 = .ok (.if_icmp .lt 8, 3) := by decide +kernel
theorem dX4_take_28 : decode cX4_take 28 = .ok (.iload_n 3, 1) := by decide +kernel
theorem dX4_take_29 : decode cX4_take 29 = .ok (.iload_n 2, 1) := by decide +kernel
theorem dX4_take_30 : decode cX4_take 30 = .ok (.if_icmp .le 5, 3) := by decide +kernel
theorem dX4_take_33 : decode cX4_take 33 = .ok (.iconst (-1), 1) := by decide +kernel
theorem dX4_take_34 : decode cX4_take 34 = .ok (.ireturn, 1) := by decide +kernel
theorem dX4_take_35 : decode cX4_take 35 = .ok (.aload_n 0, 1) := by decide +kernel
theorem dX4_take_36 : decode cX4_take 36 = .ok (.dup, 1) := by decide +kernel
theorem dX4_take_37 : decode cX4_take 37 = .ok (.getfield 22, 3) := by decide +kernel
theorem dX4_take_40 : decode cX4_take 40 = .ok (.iconst 1, 1) := by decide +kernel
theorem dX4_take_41 : decode cX4_take 41 = .ok (.iadd, 1) := by decide +kernel
theorem dX4_take_42 : decode cX4_take 42 = .ok (.putfield 22, 3) := by decide +kernel
theorem dX4_take_45 : decode cX4_take 45 = .ok (.iload_n 3, 1) := by decide +kernel
theorem dX4_take_46 : decode cX4_take 46 = .ok (.iload_n 1, 1) := by decide +kernel
theorem dX4_take_47 : decode cX4_take 47 = .ok (.isub, 1) := by decide +kernel
theorem dX4_take_48 : decode cX4_take 48 = .ok (.ireturn, 1) := by decide +kernel
theorem dJ7_fill_53178_0 : decode cJ7_fill_53178 0 = .ok (.iconst 0, 1) := by decide +kernel
theorem dJ7_fill_53178_1 : decode cJ7_fill_53178 1 = .ok (.istore_n 2, 1) := by decide +kernel
theorem dJ7_fill_53178_2 : decode cJ7_fill_53178 2 = .ok (.aload_n 0, 1) := by decide +kernel
theorem dJ7_fill_53178_3 : decode cJ7_fill_53178 3 = .ok (.arraylength, 1) := by decide +kernel
theorem dJ7_fill_53178_4 : decode cJ7_fill_53178 4 = .ok (.istore_n 3, 1) := by decide +kernel
theorem dJ7_fill_53178_5 : decode cJ7_fill_53178 5 = .ok (.iload_n 2, 1) := by decide +kernel
theorem dJ7_fill_53178_6 : decode cJ7_fill_53178 6 = .ok (.iload_n 3, 1) := by decide +kernel
theorem dJ7_fill_53178_7 : decode cJ7_fill_53178 7 = .ok (.if_icmp .ge 13, 3) := by decide +kernel
theorem dJ7_fill_53178_10 : decode cJ7_fill_53178 10 = .ok (.aload_n 0, 1) := by decide +kernel
theorem dJ7_fill_53178_11 : decode cJ7_fill_53178 11 = .ok (.iload_n 2, 1) := by decide +kernel
theorem dJ7_fill_53178_12 : decode cJ7_fill_53178 12 = .ok (.iload_n 1, 1) := by decide +kernel
theorem dJ7_fill_53178_13 : decode cJ7_fill_53178 13 = .ok (.iastore, 1) := by decide +kernel
theorem dJ7_fill_53178_14 : decode cJ7_fill_53178 14 = .ok (.iinc 2 1, 3) := by decide +kernel
theorem dJ7_fill_53178_17 : decode cJ7_fill_53178 17 = .ok (.goto (-12), 3) := by decide +kernel
theorem dJ7_fill_53178_20 : decode cJ7_fill_53178 20 = .ok (.return_, 1) := by decide +kernel
end
section
theorem dX5_init_0 : decode cX5_init 0 = .ok (.aload_n 0, 1) := by decide +kernel
theorem dX5_init_1 : decode cX5_init 1 = .ok (.invokespecial 3, 3) := by decide +kernel
theorem dX5_init_4 : decode cX5_init 4 = .ok (.aload_n 0, 1) := by decide +kernel
theorem dX5_init_5 : decode cX5_init 5 = .ok (.aload_n 1, 1) := by decide +kernel
theorem dX5_init_6 : decode cX5_init 6 = .ok (.putfield 9, 3) := by decide +kernel
theorem dX5_init_9 : decode cX5_init 9 = .ok (.aload_n 0, 1) := by decide +kernel
theorem dX5_init_10 : decode cX5_init 10 = .ok (.bipush 12, 2) := by decide +kernel
theorem dX5_init_12 : decode cX5_init 12 = .ok (.bipush 12, 2) := by decide +kernel
theorem dX5_init_14 : decode cX5_init 14 = .ok (.multianewarray 15 2, 4) := by decide +kernel
theorem dX5_init_18 : decode cX5_init 18 = .ok (.putfield 17, 3) := by decide +kernel
theorem dX5_init_21 : decode cX5_init 21 = .ok (.return_, 1) := by decide +kernel
theorem dX5_measure_0 : decode cX5_measure 0 = .ok (.aload_n 0, 1) := by decide +kernel
theorem dX5_measure_1 : decode cX5_measure 1 = .ok (.aload_n 0, 1) := by decide +kernel
theorem dX5_measure_2 : decode cX5_measure 2 = .ok (.getfield 9, 3) := by decide +kernel
theorem dX5_measure_5 : decode cX5_measure 5 = .ok (.invokevirtual 20, 3) := by decide +kernel
theorem dX5_measure_8 : decode cX5_measure 8 = .ok (.putfield 26, 3) := by decide +kernel
theorem dX5_measure_11 : decode cX5_measure 11 = .ok (.iconst 0, 1) := by decide +kernel
theorem dX5_measure_12 : decode cX5_measure 12 = .ok (.istore_n 1, 1) := by decide +kernel
theorem dX5_measure_13 : decode cX5_measure 13 = .ok (.iload_n 1, 1) := by decide +kernel
theorem dX5_measure_14 : decode cX5_measure 14 = .ok (.aload_n 0, 1) := by decide +kernel
theorem dX5_measure_15 : decode cX5_measure 15 = .ok (.getfield 26, 3) := by decide +kernel
theorem dX5_measure_18 : decode cX5_measure 18 = .ok (.if_icmp .ge 62, 3) := by decide +kernel
theorem dX5_measure_21 : decode cX5_measure 21 = .ok (.iconst 0, 1) := by decide +kernel
theorem dX5_measure_22 : decode cX5_measure 22 = .ok (.istore_n 2, 1) := by decide +kernel
theorem dX5_measure_23 : decode cX5_measure 23 = .ok (.iload_n 2, 1) := by decide +kernel
theorem dX5_measure_24 : decode cX5_measure 24 = .ok (.aload_n 0, 1) := by decide +kernel
theorem dX5_measure_25 : decode cX5_measure 25 = .ok (.getfield 26, 3) := by decide +kernel
theorem dX5_measure_28 : decode cX5_measure 28 = .ok (.if_icmp .ge 37, 3) := by decide +kernel
theorem dX5_measure_31 : decode cX5_measure 31 = .ok (.aload_n 0, 1) := by decide +kernel
theorem dX5_measure_32 : decode cX5_measure 32 = .ok (.getfield 9, 3) := by decide +kernel
theorem dX5_measure_35 : decode cX5_measure 35 = .ok (.iload_n 1, 1) := by decide +kernel
theorem dX5_measure_36 : decode cX5_measure 36 = .ok (.iload_n 2, 1) := by decide +kernel
theorem dX5_measure_37 : decode cX5_measure 37 = .ok (.invokevirtual 30, 3) := by decide +kernel
theorem dX5_measure_40 : decode cX5_measure 40 = .ok (.istore_n 3, 1) := by decide +kernel
theorem dX5_measure_41 : decode cX5_measure 41 = .ok (.aload_n 0, 1) := by decide +kernel
theorem dX5_measure_42 : decode cX5_measure 42 = .ok (.getfield 17, 3) := by decide +kernel
theorem dX5_measure_45 : decode cX5_measure 45 = .ok (.iload_n 1, 1) := by decide +kernel
theorem dX5_measure_46 : decode cX5_measure 46 = .ok (.aaload, 1) := by decide +kernel
theorem dX5_measure_47 : decode cX5_measure 47 = .ok (.iload_n 2, 1) := by decide +kernel
theorem dX5_measure_48 : decode cX5_measure 48 = .ok (.iload_n 3, 1) := by decide +kernel
theorem dX5_measure_49 : decode cX5_measure 49 = .ok (.ifCond .ne 8, 3) := by decide +kernel
theorem dX5_measure_52 : decode cX5_measure 52 = .ok (.ldc 34, 2) := by decide +kernel
theorem dX5_measure_54 : decode cX5_measure 54 = .ok (.goto 4, 3) := by decide +kernel
theorem dX5_measure_57 : decode cX5_measure 57 = .ok (.iload_n 3, 1) := by decide +kernel
theorem dX5_measure_58 : decode cX5_measure 58 = .ok (.iastore, 1) := by decide +kernel
theorem dX5_measure_59 : decode cX5_measure 59 = .ok (.iinc 2 1, 3) := by decide +kernel
theorem dX5_measure_62 : decode cX5_measure 62 = .ok (.goto (-39), 3) := by decide +kernel
theorem dX5_measure_65 : decode cX5_measure 65 = .ok (.aload_n 0, 1) := by decide +kernel
theorem dX5_measure_66 : decode cX5_measure 66 = .ok (.getfield 17, 3) := by decide +kernel
theorem dX5_measure_69 : decode cX5_measure 69 = .ok (.iload_n 1, 1) := by decide +kernel
theorem dX5_measure_70 : decode cX5_measure 70 = .ok (.aaload, 1) := by decide +kernel
theorem dX5_measure_71 : decode cX5_measure 71 = .ok (.iload_n 1, 1) := by decide +kernel
theorem dX5_measure_72 : decode cX5_measure 72 = .ok (.iconst 0, 1) := by decide +kernel
theorem dX5_measure_73 : decode cX5_measure 73 = .ok (.iastore, 1) := by decide +kernel
theorem dX5_measure_74 : decode cX5_measure 74 = .ok (.iinc 1 1, 3) := by decide +kernel
theorem dX5_measure_77 : decode cX5_measure 77 = .ok (.goto (-64), 3) := by decide +kernel
theorem dX5_measure_80 : decode cX5_measure 80 = .ok (.iconst 0, 1) := by decide +kernel
theorem dX5_measure_81 : decode cX5_measure 81 = .ok (.istore_n 1, 1) := by decide +kernel
theorem dX5_measure_82 : decode cX5_measure 82 = .ok (.iload_n 1, 1) := by decide +kernel
theorem dX5_measure_83 : decode cX5_measure 83 = .ok (.aload_n 0, 1) := by decide +kernel
theorem dX5_measure_84 : decode cX5_measure 84 = .ok (.getfield 26, 3) := by decide +kernel
theorem dX5_measure_87 : decode cX5_measure 87 = .ok (.if_icmp .ge 31, 3) := by decide +kernel
theorem dX5_measure_90 : decode cX5_measure 90 = .ok (.iconst 0, 1) := by decide +kernel
theorem dX5_measure_91 : decode cX5_measure 91 = .ok (.istore_n 2, 1) := by decide +kernel
theorem dX5_measure_92 : decode cX5_measure 92 = .ok (.iload_n 2, 1) := by decide +kernel
theorem dX5_measure_93 : decode cX5_measure 93 = .ok (.aload_n 0, 1) := by decide +kernel
theorem dX5_measure_94 : decode cX5_measure 94 = .ok (.getfield 26, 3) := by decide +kernel
theorem dX5_measure_97 : decode cX5_measure 97 = .ok (.if_icmp .ge 15, 3) := by decide +kernel
theorem dX5_measure_100 : decode cX5_measure 100 = .ok (.aload_n 0, 1) := by decide +kernel
theorem dX5_measure_101 : decode cX5_measure 101 = .ok (.iload_n 1, 1) := by decide +kernel
theorem dX5_measure_102 : decode cX5_measure 102 = .ok (.iload_n 2, 1) := by decide +kernel
theorem dX5_measure_103 : decode cX5_measure 103 = .ok (.invokevirtual 35, 3) := by decide +kernel
theorem dX5_measure_106 : decode cX5_measure 106 = .ok (.iinc 2 1, 3) := by decide +kernel
theorem dX5_measure_109 : decode cX5_measure 109 = .ok (.goto (-17), 3) := by decide +kernel
theorem dX5_measure_112 : decode cX5_measure 112 = .ok (.iinc 1 1, 3) := by decide +kernel
theorem dX5_measure_115 : decode cX5_measure 115 = .ok (.goto (-33), 3) := by decide +kernel
theorem dX5_measure_118 : decode cX5_measure 118 = .ok (.return_, 1) := by decide +kernel
theorem dX5_extendOver_0 : decode cX5_extendOver 0 = .ok (.aload_n 0, 1) := by decide +kernel
theorem dX5_extendOver_1 : decode cX5_extendOver 1 = .ok (.getfield 17, 3) := by decide +kernel
theorem dX5_extendOver_4 : decode cX5_extendOver 4 = .ok (.iload_n 2, 1) := by decide +kernel
theorem dX5_extendOver_5 : decode cX5_extendOver 5 = .ok (.aaload, 1) := by decide +kernel
theorem dX5_extendOver_6 : decode cX5_extendOver 6 = .ok (.iload_n 1, 1) := by decide +kernel
theorem dX5_extendOver_7 : decode cX5_extendOver 7 = .ok (.iaload, 1) := by decide +kernel
theorem dX5_extendOver_8 : decode cX5_extendOver 8 = .ok (.istore_n 3, 1) := by decide +kernel
theorem dX5_extendOver_9 : decode cX5_extendOver 9 = .ok (.iload_n 3, 1) := by decide +kernel
theorem dX5_extendOver_10 : decode cX5_extendOver 10 = .ok (.ldc 34, 2) := by decide +kernel
theorem dX5_extendOver_12 : decode cX5_extendOver 12 = .ok (.if_icmp .lt 4, 3) := by decide +kernel
theorem dX5_extendOver_15 : decode cX5_extendOver 15 = .ok (.return_, 1) := by decide +kernel
theorem dX5_extendOver_16 : decode cX5_extendOver 16 = .ok (.iconst 0, 1) := by decide +kernel
theorem dX5_extendOver_17 : decode cX5_extendOver 17 = .ok (.istore 4, 2) := by decide +kernel
theorem dX5_extendOver_19 : decode cX5_extendOver 19 = .ok (.iload 4, 2) := by decide +kernel
theorem dX5_extendOver_21 : decode cX5_extendOver 21 = .ok (.aload_n 0, 1) := by decide +kernel
theorem dX5_extendOver_22 : decode cX5_extendOver 22 = .ok (.getfield 26, 3) := by decide +kernel
theorem dX5_extendOver_25 : decode cX5_extendOver 25 = .ok (.if_icmp .ge 41, 3) := by decide +kernel
theorem dX5_extendOver_28 : decode cX5_extendOver 28 = .ok (.aload_n 0, 1) := by decide +kernel
theorem dX5_extendOver_29 : decode cX5_extendOver 29 = .ok (.getfield 17, 3) := by decide +kernel
theorem dX5_extendOver_32 : decode cX5_extendOver 32 = .ok (.iload_n 2, 1) := by decide +kernel
theorem dX5_extendOver_33 : decode cX5_extendOver 33 = .ok (.aaload, 1) := by decide +kernel
theorem dX5_extendOver_34 : decode cX5_extendOver 34 = .ok (.iload 4, 2) := by decide +kernel
theorem dX5_extendOver_36 : decode cX5_extendOver 36 = .ok (.aload_n 0, 1) := by decide +kernel
theorem dX5_extendOver_37 : decode cX5_extendOver 37 = .ok (.getfield 17, 3) := by decide +kernel
theorem dX5_extendOver_40 : decode cX5_extendOver 40 = .ok (.iload_n 2, 1) := by decide +kernel
theorem dX5_extendOver_41 : decode cX5_extendOver 41 = .ok (.aaload, 1) := by decide +kernel
theorem dX5_extendOver_42 : decode cX5_extendOver 42 = .ok (.iload 4, 2) := by decide +kernel
theorem dX5_extendOver_44 : decode cX5_extendOver 44 = .ok (.iaload, 1) := by decide +kernel
theorem dX5_extendOver_45 : decode cX5_extendOver 45 = .ok (.iload_n 3, 1) := by decide +kernel
theorem dX5_extendOver_46 : decode cX5_extendOver 46 = .ok (.aload_n 0, 1) := by decide +kernel
theorem dX5_extendOver_47 : decode cX5_extendOver 47 = .ok (.getfield 17, 3) := by decide +kernel
theorem dX5_extendOver_50 : decode cX5_extendOver 50 = .ok (.iload_n 1, 1) := by decide +kernel
theorem dX5_extendOver_51 : decode cX5_extendOver 51 = .ok (.aaload, 1) := by decide +kernel
theorem dX5_extendOver_52 : decode cX5_extendOver 52 = .ok (.iload 4, 2) := by decide +kernel
theorem dX5_extendOver_54 : decode cX5_extendOver 54 = .ok (.iaload, 1) := by decide +kernel
theorem dX5_extendOver_55 : decode cX5_extendOver 55 = .ok (.iadd, 1) := by decide +kernel
theorem dX5_extendOver_56 : decode cX5_extendOver 56 = .ok (.invokestatic 39, 3) := by decide +kernel
theorem dX5_extendOver_59 : decode cX5_extendOver 59 = .ok (.iastore, 1) := by decide +kernel
theorem dX5_extendOver_60 : decode cX5_extendOver 60 = .ok (.iinc 4 1, 3) := by decide +kernel
theorem dX5_extendOver_63 : decode cX5_extendOver 63 = .ok (.goto (-44), 3) := by decide +kernel
theorem dX5_extendOver_66 : decode cX5_extendOver 66 = .ok (.return_, 1) := by decide +kernel
theorem dX5_between_0 : decode cX5_between 0 = .ok (.iload_n 1, 1) := by decide +kernel
theorem dX5_between_1 : decode cX5_between 1 = .ok (.ifCond .lt 23, 3) := by decide +kernel
theorem dX5_between_4 : decode cX5_between 4 = .ok (.iload_n 1, 1) := by decide +kernel
theorem dX5_between_5 : decode cX5_between 5 = .ok (.aload_n 0, 1) := by decide +kernel
theorem dX5_between_6 : decode cX5_between 6 = .ok (.getfield 26, 3) := by decide +kernel
theorem dX5_between_9 : decode cX5_between 9 = .ok (.if_icmp .ge 15, 3) := by decide +kernel
theorem dX5_between_12 : decode cX5_between 12 = .ok (.iload_n 2, 1) := by decide +kernel
theorem dX5_between_13 : decode cX5_between 13 = .ok (.ifCond .lt 11, 3) := by decide +kernel
theorem dX5_between_16 : decode cX5_between 16 = .ok (.iload_n 2, 1) := by decide +kernel
theorem dX5_between_17 : decode cX5_between 17 = .ok (.aload_n 0, 1) := by decide +kernel
theorem dX5_between_18 : decode cX5_between 18 = .ok (.getfield 26, 3) := by decide +kernel
theorem dX5_between_21 : decode cX5_between 21 = .ok (.if_icmp .lt 6, 3) := by decide +kernel
theorem dX5_between_24 : decode cX5_between 24 = .ok (.ldc 34, 2) := by decide +kernel
theorem dX5_between_26 : decode cX5_between 26 = .ok (.ireturn, 1) := by decide +kernel
theorem dX5_between_27 : decode cX5_between 27 = .ok (.aload_n 0, 1) := by decide +kernel
theorem dX5_between_28 : decode cX5_between 28 = .ok (.getfield 17, 3) := by decide +kernel
theorem dX5_between_31 : decode cX5_between 31 = .ok (.iload_n 1, 1) := by decide +kernel
theorem dX5_between_32 : decode cX5_between 32 = .ok (.aaload, 1) := by decide +kernel
theorem dX5_between_33 : decode cX5_between 33 = .ok (.iload_n 2, 1) := by decide +kernel
theorem dX5_between_34 : decode cX5_between 34 = .ok (.iaload, 1) := by decide +kernel
theorem dX5_between_35 : decode cX5_between 35 = .ok (.ireturn, 1) := by decide +kernel
theorem dX5_joined_0 : decode cX5_joined 0 = .ok (.aload_n 0, 1) := by decide +kernel
theorem dX5_joined_1 : decode cX5_joined 1 = .ok (.iload_n 1, 1) := by decide +kernel
theorem dX5_joined_2 : decode cX5_joined 2 = .ok (.iload_n 2, 1) := by decide +kernel
theorem dX5_joined_3 : decode cX5_joined 3 = .ok (.invokevirtual 44, 3) := by decide +kernel
theorem dX5_joined_6 : decode cX5_joined 6 = .ok (.ldc 34, 2) := by decide +kernel
theorem dX5_joined_8 : decode cX5_joined 8 = .ok (.if_icmp .ge 7, 3) := by decide +kernel
theorem dX5_joined_11 : decode cX5_joined 11 = .ok (.iconst 1, 1) := by decide +kernel
theorem dX5_joined_12 : decode cX5_joined 12 = .ok (.goto 4, 3) := by decide +kernel
theorem dX5_joined_15 : decode cX5_joined 15 = .ok (.iconst 0, 1) := by decide +kernel
theorem dX5_joined_16 : decode cX5_joined 16 = .ok (.ireturn, 1) := by decide +kernel
theorem dX5_edgeOf_0 : decode cX5_edgeOf 0 = .ok (.aload_n 0, 1) := by decide +kernel
theorem dX5_edgeOf_1 : decode cX5_edgeOf 1 = .ok (.getfield 9, 3) := by decide +kernel
theorem dX5_edgeOf_4 : decode cX5_edgeOf 4 = .ok (.iload_n 1, 1) := by decide +kernel
theorem dX5_edgeOf_5 : decode cX5_edgeOf 5 = .ok (.iload_n 2, 1) := by decide +kernel
theorem dX5_edgeOf_6 : decode cX5_edgeOf 6 = .ok (.invokevirtual 30, 3) := by decide +kernel
theorem dX5_edgeOf_9 : decode cX5_edgeOf 9 = .ok (.ireturn, 1) := by decide +kernel
theorem dX5_smallestJoined_0 : decode cX5_smallestJoined 0 = .ok (.iconst 0, 1) := by decide +kernel
theorem dX5_smallestJoined_1 : decode cX5_smallestJoined 1 = .ok (.istore_n 2, 1) := by decide +kernel
theorem dX5_smallestJoined_2 : decode cX5_smallestJoined 2 = .ok (.iload_n 2, 1) := by decide +kernel
theorem dX5_smallestJoined_3 : decode cX5_smallestJoined 3 = .ok (.iload_n 1, 1) := by decide +kernel
theorem dX5_smallestJoined_4 : decode cX5_smallestJoined 4 = .ok (.if_icmp .ge 20, 3) := by decide +kernel
theorem dX5_smallestJoined_7 : decode cX5_smallestJoined 7 = .ok (.aload_n 0, 1) := by decide +kernel
theorem dX5_smallestJoined_8 : decode cX5_smallestJoined 8 = .ok (.iload_n 2, 1) := by decide +kernel
theorem dX5_smallestJoined_9 : decode cX5_smallestJoined 9 = .ok (.iload_n 1, 1) := by decide +kernel
theorem dX5_smallestJoined_10 : decode cX5_smallestJoined 10 = .ok (.invokevirtual 47, 3) := by decide +kernel
theorem dX5_smallestJoined_13 : decode cX5_smallestJoined 13 = .ok (.ifCond .eq 5, 3) := by decide +kernel
theorem dX5_smallestJoined_16 : decode cX5_smallestJoined 16 = .ok (.iload_n 2, 1) := by decide +kernel
theorem dX5_smallestJoined_17 : decode cX5_smallestJoined 17 = .ok (.ireturn, 1) := by decide +kernel
theorem dX5_smallestJoined_18 : decode cX5_smallestJoined 18 = .ok (.iinc 2 1, 3) := by decide +kernel
theorem dX5_smallestJoined_21 : decode cX5_smallestJoined 21 = .ok (.goto (-19), 3) := by decide +kernel
theorem dX5_smallestJoined_24 : decode cX5_smallestJoined 24 = .ok (.iload_n 1, 1) := by decide +kernel
theorem dX5_smallestJoined_25 : decode cX5_smallestJoined 25 = .ok (.ireturn, 1) := by decide +kernel
theorem dX5_vertexOnPath_0 : decode cX5_vertexOnPath 0 = .ok (.aload_n 0, 1) := by decide +kernel
theorem dX5_vertexOnPath_1 : decode cX5_vertexOnPath 1 = .ok (.iload_n 1, 1) := by decide +kernel
theorem dX5_vertexOnPath_2 : decode cX5_vertexOnPath 2 = .ok (.iload_n 2, 1) := by decide +kernel
theorem dX5_vertexOnPath_3 : decode cX5_vertexOnPath 3 = .ok (.invokevirtual 47, 3) := by decide +kernel
theorem dX5_vertexOnPath_6 : decode cX5_vertexOnPath 6 = .ok (.ifCond .eq 9, 3) := by decide +kernel
theorem dX5_vertexOnPath_9 : decode cX5_vertexOnPath 9 = .ok (.iload_n 3, 1) := by decide +kernel
theorem dX5_vertexOnPath_10 : decode cX5_vertexOnPath 10 = .ok (.bipush 12, 2) := by decide +kernel
theorem dX5_vertexOnPath_12 : decode cX5_vertexOnPath 12 = .ok (.if_icmp .lt 6, 3) := by decide +kernel
theorem dX5_vertexOnPath_15 : decode cX5_vertexOnPath 15 = .ok (.bipush (-9), 2) := by decide +kernel
theorem dX5_vertexOnPath_17 : decode cX5_vertexOnPath 17 = .ok (.ireturn, 1) := by decide +kernel
theorem dX5_vertexOnPath_18 : decode cX5_vertexOnPath 18 = .ok (.iload_n 1, 1) := by decide +kernel
theorem dX5_vertexOnPath_19 : decode cX5_vertexOnPath 19 = .ok (.istore 4, 2) := by decide +kernel
theorem dX5_vertexOnPath_21 : decode cX5_vertexOnPath 21 = .ok (.iconst 0, 1) := by decide +kernel
theorem dX5_vertexOnPath_22 : decode cX5_vertexOnPath 22 = .ok (.istore 5, 2) := by decide +kernel
theorem dX5_vertexOnPath_24 : decode cX5_vertexOnPath 24 = .ok (.iload 5, 2) := by decide +kernel
theorem dX5_vertexOnPath_26 : decode cX5_vertexOnPath 26 = .ok (.iload_n 3, 1) := by decide +kernel
theorem dX5_vertexOnPath_27 : decode cX5_vertexOnPath 27 = .ok (.if_icmp .ge 27, 3) := by decide +kernel
theorem dX5_vertexOnPath_30 : decode cX5_vertexOnPath 30 = .ok (.iload 4, 2) := by decide +kernel
theorem dX5_vertexOnPath_32 : decode cX5_vertexOnPath 32 = .ok (.iload_n 2, 1) := by decide +kernel
theorem dX5_vertexOnPath_33 : decode cX5_vertexOnPath 33 = .ok (.if_icmp .ne 6, 3) := by decide +kernel
theorem dX5_vertexOnPath_36 : decode cX5_vertexOnPath 36 = .ok (.bipush (-9), 2) := by decide +kernel
theorem dX5_vertexOnPath_38 : decode cX5_vertexOnPath 38 = .ok (.ireturn, 1) := by decide +kernel
theorem dX5_vertexOnPath_39 : decode cX5_vertexOnPath 39 = .ok (.aload_n 0, 1) := by decide +kernel
theorem dX5_vertexOnPath_40 : decode cX5_vertexOnPath 40 = .ok (.iload 4, 2) := by decide +kernel
theorem dX5_vertexOnPath_42 : decode cX5_vertexOnPath 42 = .ok (.iload_n 2, 1) := by decide +kernel
theorem dX5_vertexOnPath_43 : decode cX5_vertexOnPath 43 = .ok (.invokevirtual 51, 3) := by decide +kernel
theorem dX5_vertexOnPath_46 : decode cX5_vertexOnPath 46 = .ok (.istore 4, 2) := by decide +kernel
theorem dX5_vertexOnPath_48 : decode cX5_vertexOnPath 48 = .ok (.iinc 5 1, 3) := by decide +kernel
theorem dX5_vertexOnPath_51 : decode cX5_vertexOnPath 51 = .ok (.goto (-27), 3) := by decide +kernel
theorem dX5_vertexOnPath_54 : decode cX5_vertexOnPath 54 = .ok (.iload 4, 2) := by decide +kernel
theorem dX5_vertexOnPath_56 : decode cX5_vertexOnPath 56 = .ok (.ireturn, 1) := by decide +kernel
theorem dX5_stepToward_0 : decode cX5_stepToward 0 = .ok (.iconst 0, 1) := by decide +kernel
theorem dX5_stepToward_1 : decode cX5_stepToward 1 = .ok (.istore_n 3, 1) := by decide +kernel
theorem dX5_stepToward_2 : decode cX5_stepToward 2 = .ok (.iload_n 3, 1) := by decide +kernel
theorem dX5_stepToward_3 : decode cX5_stepToward 3 = .ok (.aload_n 0, 1) := by decide +kernel
theorem dX5_stepToward_4 : decode cX5_stepToward 4 = .ok (.getfield 26, 3) := by decide +kernel
theorem dX5_stepToward_7 : decode cX5_stepToward 7 = .ok (.if_icmp .ge 38, 3) := by decide +kernel
theorem dX5_stepToward_10 : decode cX5_stepToward 10 = .ok (.aload_n 0, 1) := by decide +kernel
theorem dX5_stepToward_11 : decode cX5_stepToward 11 = .ok (.getfield 9, 3) := by decide +kernel
theorem dX5_stepToward_14 : decode cX5_stepToward 14 = .ok (.iload_n 1, 1) := by decide +kernel
theorem dX5_stepToward_15 : decode cX5_stepToward 15 = .ok (.iload_n 3, 1) := by decide +kernel
theorem dX5_stepToward_16 : decode cX5_stepToward 16 = .ok (.invokevirtual 54, 3) := by decide +kernel
theorem dX5_stepToward_19 : decode cX5_stepToward 19 = .ok (.ifCond .eq 20, 3) := by decide +kernel
theorem dX5_stepToward_22 : decode cX5_stepToward 22 = .ok (.aload_n 0, 1) := by decide +kernel
theorem dX5_stepToward_23 : decode cX5_stepToward 23 = .ok (.iload_n 3, 1) := by decide +kernel
theorem dX5_stepToward_24 : decode cX5_stepToward 24 = .ok (.iload_n 2, 1) := by decide +kernel
theorem dX5_stepToward_25 : decode cX5_stepToward 25 = .ok (.invokevirtual 44, 3) := by decide +kernel
theorem dX5_stepToward_28 : decode cX5_stepToward 28 = .ok (.aload_n 0, 1) := by decide +kernel
theorem dX5_stepToward_29 : decode cX5_stepToward 29 = .ok (.iload_n 1, 1) := by decide +kernel
theorem dX5_stepToward_30 : decode cX5_stepToward 30 = .ok (.iload_n 2, 1) := by decide +kernel
theorem dX5_stepToward_31 : decode cX5_stepToward 31 = .ok (.invokevirtual 44, 3) := by decide +kernel
theorem dX5_stepToward_34 : decode cX5_stepToward 34 = .ok (.if_icmp .ge 5, 3) := by decide +kernel
theorem dX5_stepToward_37 : decode cX5_stepToward 37 = .ok (.iload_n 3, 1) := by decide +kernel
theorem dX5_stepToward_38 : decode cX5_stepToward 38 = .ok (.ireturn, 1) := by decide +kernel
theorem dX5_stepToward_39 : decode cX5_stepToward 39 = .ok (.iinc 3 1, 3) := by decide +kernel
theorem dX5_stepToward_42 : decode cX5_stepToward 42 = .ok (.goto (-40), 3) := by decide +kernel
theorem dX5_stepToward_45 : decode cX5_stepToward 45 = .ok (.iload_n 2, 1) := by decide +kernel
theorem dX5_stepToward_46 : decode cX5_stepToward 46 = .ok (.ireturn, 1) := by decide +kernel
theorem dX5_greatestFrom_0 : decode cX5_greatestFrom 0 = .ok (.aload_n 0, 1) := by decide +kernel
theorem dX5_greatestFrom_1 : decode cX5_greatestFrom 1 = .ok (.iload_n 1, 1) := by decide +kernel
theorem dX5_greatestFrom_2 : decode cX5_greatestFrom 2 = .ok (.aload_n 0, 1) := by decide +kernel
theorem dX5_greatestFrom_3 : decode cX5_greatestFrom 3 = .ok (.iload_n 1, 1) := by decide +kernel
theorem dX5_greatestFrom_4 : decode cX5_greatestFrom 4 = .ok (.invokevirtual 57, 3) := by decide +kernel
theorem dX5_greatestFrom_7 : decode cX5_greatestFrom 7 = .ok (.invokevirtual 44, 3) := by decide +kernel
theorem dX5_greatestFrom_10 : decode cX5_greatestFrom 10 = .ok (.ireturn, 1) := by decide +kernel
theorem dX5_firstFarthest_0 : decode cX5_firstFarthest 0 = .ok (.iload_n 1, 1) := by decide +kernel
theorem dX5_firstFarthest_1 : decode cX5_firstFarthest 1 = .ok (.istore_n 2, 1) := by decide +kernel
theorem dX5_firstFarthest_2 : decode cX5_firstFarthest 2 = .ok (.iconst (-1), 1) := by decide +kernel
theorem dX5_firstFarthest_3 : decode cX5_firstFarthest 3 = .ok (.istore_n 3, 1) := by decide +kernel
theorem dX5_firstFarthest_4 : decode cX5_firstFarthest 4 = .ok (.iconst 0, 1) := by decide +kernel
theorem dX5_firstFarthest_5 : decode cX5_firstFarthest 5 = .ok (.istore 4, 2) := by decide +kernel
theorem dX5_firstFarthest_7 : decode cX5_firstFarthest 7 = .ok (.iload 4, 2) := by decide +kernel
theorem dX5_firstFarthest_9 : decode cX5_firstFarthest 9 = .ok (.aload_n 0, 1) := by decide +kernel
theorem dX5_firstFarthest_10 : decode cX5_firstFarthest 10 = .ok (.getfield 26, 3) := by decide +kernel
theorem dX5_firstFarthest_13 : decode cX5_firstFarthest 13 = .ok (.if_icmp .ge 37, 3) := by decide +kernel
theorem dX5_firstFarthest_16 : decode cX5_firstFarthest 16 = .ok (.aload_n 0, 1) := by decide +kernel
theorem dX5_firstFarthest_17 : decode cX5_firstFarthest 17 = .ok (.iload 4, 2) := by decide +kernel
theorem dX5_firstFarthest_19 : decode cX5_firstFarthest 19 = .ok (.iload_n 1, 1) := by decide +kernel
theorem dX5_firstFarthest_20 : decode cX5_firstFarthest 20 = .ok (.invokevirtual 44, 3) := by decide +kernel
theorem dX5_firstFarthest_23 : decode cX5_firstFarthest 23 = .ok (.istore 5, 2) := by decide +kernel
theorem dX5_firstFarthest_25 : decode cX5_firstFarthest 25 = .ok (.iload 5, 2) := by decide +kernel
theorem dX5_firstFarthest_27 : decode cX5_firstFarthest 27 = .ok (.ldc 34, 2) := by decide +kernel
theorem dX5_firstFarthest_29 : decode cX5_firstFarthest 29 = .ok (.if_icmp .ge 15, 3) := by decide +kernel
theorem dX5_firstFarthest_32 : decode cX5_firstFarthest 32 = .ok (.iload 5, 2) := by decide +kernel
theorem dX5_firstFarthest_34 : decode cX5_firstFarthest 34 = .ok (.iload_n 3, 1) := by decide +kernel
theorem dX5_firstFarthest_35 : decode cX5_firstFarthest 35 = .ok (.if_icmp .le 9, 3) := by decide +kernel
theorem dX5_firstFarthest_38 : decode cX5_firstFarthest 38 = .ok (.iload 4, 2) := by decide +kernel
theorem dX5_firstFarthest_40 : decode cX5_firstFarthest 40 = .ok (.istore_n 2, 1) := by decide +kernel
theorem dX5_firstFarthest_41 : decode cX5_firstFarthest 41 = .ok (.iload 5, 2) := by decide +kernel
theorem dX5_firstFarthest_43 : decode cX5_firstFarthest 43 = .ok (.istore_n 3, 1) := by decide +kernel
theorem dX5_firstFarthest_44 : decode cX5_firstFarthest 44 = .ok (.iinc 4 1, 3) := by decide +kernel
theorem dX5_firstFarthest_47 : decode cX5_firstFarthest 47 = .ok (.goto (-40), 3) := by decide +kernel
theorem dX5_firstFarthest_50 : decode cX5_firstFarthest 50 = .ok (.iload_n 2, 1) := by decide +kernel
theorem dX5_firstFarthest_51 : decode cX5_firstFarthest 51 = .ok (.ireturn, 1) := by decide +kernel
theorem dX5_widthAround_0 : decode cX5_widthAround 0 = .ok (.aload_n 0, 1) := by decide +kernel
theorem dX5_widthAround_1 : decode cX5_widthAround 1 = .ok (.aload_n 0, 1) := by decide +kernel
theorem dX5_widthAround_2 : decode cX5_widthAround 2 = .ok (.iload_n 1, 1) := by decide +kernel
theorem dX5_widthAround_3 : decode cX5_widthAround 3 = .ok (.invokevirtual 61, 3) := by decide +kernel
theorem dX5_widthAround_6 : decode cX5_widthAround 6 = .ok (.invokevirtual 64, 3) := by decide +kernel
theorem dX5_widthAround_9 : decode cX5_widthAround 9 = .ok (.ireturn, 1) := by decide +kernel
theorem dX5_firstWideEnd_0 : decode cX5_firstWideEnd 0 = .ok (.iload_n 1, 1) := by decide +kernel
theorem dX5_firstWideEnd_1 : decode cX5_firstWideEnd 1 = .ok (.istore_n 2, 1) := by decide +kernel
theorem dX5_firstWideEnd_2 : decode cX5_firstWideEnd 2 = .ok (.iconst (-1), 1) := by decide +kernel
theorem dX5_firstWideEnd_3 : decode cX5_firstWideEnd 3 = .ok (.istore_n 3, 1) := by decide +kernel
theorem dX5_firstWideEnd_4 : decode cX5_firstWideEnd 4 = .ok (.iconst 0, 1) := by decide +kernel
theorem dX5_firstWideEnd_5 : decode cX5_firstWideEnd 5 = .ok (.istore 4, 2) := by decide +kernel
theorem dX5_firstWideEnd_7 : decode cX5_firstWideEnd 7 = .ok (.iload 4, 2) := by decide +kernel
theorem dX5_firstWideEnd_9 : decode cX5_firstWideEnd 9 = .ok (.aload_n 0, 1) := by decide +kernel
theorem dX5_firstWideEnd_10 : decode cX5_firstWideEnd 10 = .ok (.getfield 26, 3) := by decide +kernel
theorem dX5_firstWideEnd_13 : decode cX5_firstWideEnd 13 = .ok (.if_icmp .ge 39, 3) := by decide +kernel
theorem dX5_firstWideEnd_16 : decode cX5_firstWideEnd 16 = .ok (.aload_n 0, 1) := by decide +kernel
theorem dX5_firstWideEnd_17 : decode cX5_firstWideEnd 17 = .ok (.iload 4, 2) := by decide +kernel
theorem dX5_firstWideEnd_19 : decode cX5_firstWideEnd 19 = .ok (.iload_n 1, 1) := by decide +kernel
theorem dX5_firstWideEnd_20 : decode cX5_firstWideEnd 20 = .ok (.invokevirtual 47, 3) := by decide +kernel
theorem dX5_firstWideEnd_23 : decode cX5_firstWideEnd 23 = .ok (.ifCond .eq 23, 3) := by decide +kernel
theorem dX5_firstWideEnd_26 : decode cX5_firstWideEnd 26 = .ok (.aload_n 0, 1) := by decide +kernel
theorem dX5_firstWideEnd_27 : decode cX5_firstWideEnd 27 = .ok (.iload 4, 2) := by decide +kernel
theorem dX5_firstWideEnd_29 : decode cX5_firstWideEnd 29 = .ok (.invokevirtual 64, 3) := by decide +kernel
theorem dX5_firstWideEnd_32 : decode cX5_firstWideEnd 32 = .ok (.iload_n 3, 1) := by decide +kernel
theorem dX5_firstWideEnd_33 : decode cX5_firstWideEnd 33 = .ok (.if_icmp .le 13, 3) := by decide +kernel
theorem dX5_firstWideEnd_36 : decode cX5_firstWideEnd 36 = .ok (.iload 4, 2) := by decide +kernel
theorem dX5_firstWideEnd_38 : decode cX5_firstWideEnd 38 = .ok (.istore_n 2, 1) := by decide +kernel
theorem dX5_firstWideEnd_39 : decode cX5_firstWideEnd 39 = .ok (.aload_n 0, 1) := by decide +kernel
theorem dX5_firstWideEnd_40 : decode cX5_firstWideEnd 40 = .ok (.iload 4, 2) := by decide +kernel
theorem dX5_firstWideEnd_42 : decode cX5_firstWideEnd 42 = .ok (.invokevirtual 64, 3) := by decide +kernel
theorem dX5_firstWideEnd_45 : decode cX5_firstWideEnd 45 = .ok (.istore_n 3, 1) := by decide +kernel
theorem dX5_firstWideEnd_46 : decode cX5_firstWideEnd 46 = .ok (.iinc 4 1, 3) := by decide +kernel
theorem dX5_firstWideEnd_49 : decode cX5_firstWideEnd 49 = .ok (.goto (-42), 3) := by decide +kernel
theorem dX5_firstWideEnd_52 : decode cX5_firstWideEnd 52 = .ok (.iload_n 2, 1) := by decide +kernel
theorem dX5_firstWideEnd_53 : decode cX5_firstWideEnd 53 = .ok (.ireturn, 1) := by decide +kernel
theorem dX5_middleOf_0 : decode cX5_middleOf 0 = .ok (.iload_n 1, 1) := by decide +kernel
theorem dX5_middleOf_1 : decode cX5_middleOf 1 = .ok (.istore_n 2, 1) := by decide +kernel
theorem dX5_middleOf_2 : decode cX5_middleOf 2 = .ok (.ldc 67, 2) := by decide +kernel
theorem dX5_middleOf_4 : decode cX5_middleOf 4 = .ok (.istore_n 3, 1) := by decide +kernel
theorem dX5_middleOf_5 : decode cX5_middleOf 5 = .ok (.iconst 0, 1) := by decide +kernel
theorem dX5_middleOf_6 : decode cX5_middleOf 6 = .ok (.istore 4, 2) := by decide +kernel
theorem dX5_middleOf_8 : decode cX5_middleOf 8 = .ok (.iload 4, 2) := by decide +kernel
theorem dX5_middleOf_10 : decode cX5_middleOf 10 = .ok (.aload_n 0, 1) := by decide +kernel
theorem dX5_middleOf_11 : decode cX5_middleOf 11 = .ok (.getfield 26, 3) := by decide +kernel
theorem dX5_middleOf_14 : decode cX5_middleOf 14 = .ok (.if_icmp .ge 39, 3) := by decide +kernel
theorem dX5_middleOf_17 : decode cX5_middleOf 17 = .ok (.aload_n 0, 1) := by decide +kernel
theorem dX5_middleOf_18 : decode cX5_middleOf 18 = .ok (.iload 4, 2) := by decide +kernel
theorem dX5_middleOf_20 : decode cX5_middleOf 20 = .ok (.iload_n 1, 1) := by decide +kernel
theorem dX5_middleOf_21 : decode cX5_middleOf 21 = .ok (.invokevirtual 47, 3) := by decide +kernel
theorem dX5_middleOf_24 : decode cX5_middleOf 24 = .ok (.ifCond .eq 23, 3) := by decide +kernel
theorem dX5_middleOf_27 : decode cX5_middleOf 27 = .ok (.aload_n 0, 1) := by decide +kernel
theorem dX5_middleOf_28 : decode cX5_middleOf 28 = .ok (.iload 4, 2) := by decide +kernel
theorem dX5_middleOf_30 : decode cX5_middleOf 30 = .ok (.invokevirtual 64, 3) := by decide +kernel
theorem dX5_middleOf_33 : decode cX5_middleOf 33 = .ok (.iload_n 3, 1) := by decide +kernel
theorem dX5_middleOf_34 : decode cX5_middleOf 34 = .ok (.if_icmp .ge 13, 3) := by decide +kernel
theorem dX5_middleOf_37 : decode cX5_middleOf 37 = .ok (.iload 4, 2) := by decide +kernel
theorem dX5_middleOf_39 : decode cX5_middleOf 39 = .ok (.istore_n 2, 1) := by decide +kernel
theorem dX5_middleOf_40 : decode cX5_middleOf 40 = .ok (.aload_n 0, 1) := by decide +kernel
theorem dX5_middleOf_41 : decode cX5_middleOf 41 = .ok (.iload 4, 2) := by decide +kernel
theorem dX5_middleOf_43 : decode cX5_middleOf 43 = .ok (.invokevirtual 64, 3) := by decide +kernel
theorem dX5_middleOf_46 : decode cX5_middleOf 46 = .ok (.istore_n 3, 1) := by decide +kernel
theorem dX5_middleOf_47 : decode cX5_middleOf 47 = .ok (.iinc 4 1, 3) := by decide +kernel
theorem dX5_middleOf_50 : decode cX5_middleOf 50 = .ok (.goto (-42), 3) := by decide +kernel
theorem dX5_middleOf_53 : decode cX5_middleOf 53 = .ok (.iload_n 2, 1) := by decide +kernel
theorem dX5_middleOf_54 : decode cX5_middleOf 54 = .ok (.ireturn, 1) := by decide +kernel
theorem dX5_priceOf_0 : decode cX5_priceOf 0 = .ok (.iconst 0, 1) := by decide +kernel
theorem dX5_priceOf_1 : decode cX5_priceOf 1 = .ok (.istore_n 2, 1) := by decide +kernel
theorem dX5_priceOf_2 : decode cX5_priceOf 2 = .ok (.iconst 0, 1) := by decide +kernel
theorem dX5_priceOf_3 : decode cX5_priceOf 3 = .ok (.istore_n 3, 1) := by decide +kernel
theorem dX5_priceOf_4 : decode cX5_priceOf 4 = .ok (.iload_n 3, 1) := by decide +kernel
theorem dX5_priceOf_5 : decode cX5_priceOf 5 = .ok (.aload_n 0, 1) := by decide +kernel
theorem dX5_priceOf_6 : decode cX5_priceOf 6 = .ok (.getfield 26, 3) := by decide +kernel
theorem dX5_priceOf_9 : decode cX5_priceOf 9 = .ok (.if_icmp .ge 36, 3) := by decide +kernel
theorem dX5_priceOf_12 : decode cX5_priceOf 12 = .ok (.aload_n 0, 1) := by decide +kernel
theorem dX5_priceOf_13 : decode cX5_priceOf 13 = .ok (.iload_n 3, 1) := by decide +kernel
theorem dX5_priceOf_14 : decode cX5_priceOf 14 = .ok (.iload_n 1, 1) := by decide +kernel
theorem dX5_priceOf_15 : decode cX5_priceOf 15 = .ok (.invokevirtual 47, 3) := by decide +kernel
theorem dX5_priceOf_18 : decode cX5_priceOf 18 = .ok (.ifCond .eq 21, 3) := by decide +kernel
theorem dX5_priceOf_21 : decode cX5_priceOf 21 = .ok (.iload_n 2, 1) := by decide +kernel
theorem dX5_priceOf_22 : decode cX5_priceOf 22 = .ok (.aload_n 0, 1) := by decide +kernel
theorem dX5_priceOf_23 : decode cX5_priceOf 23 = .ok (.getfield 9, 3) := by decide +kernel
theorem dX5_priceOf_26 : decode cX5_priceOf 26 = .ok (.iload_n 3, 1) := by decide +kernel
theorem dX5_priceOf_27 : decode cX5_priceOf 27 = .ok (.invokevirtual 68, 3) := by decide +kernel
theorem dX5_priceOf_30 : decode cX5_priceOf 30 = .ok (.aload_n 0, 1) := by decide +kernel
theorem dX5_priceOf_31 : decode cX5_priceOf 31 = .ok (.iload_n 3, 1) := by decide +kernel
theorem dX5_priceOf_32 : decode cX5_priceOf 32 = .ok (.iload_n 1, 1) := by decide +kernel
theorem dX5_priceOf_33 : decode cX5_priceOf 33 = .ok (.invokevirtual 44, 3) := by decide +kernel
theorem dX5_priceOf_36 : decode cX5_priceOf 36 = .ok (.imul, 1) := by decide +kernel
theorem dX5_priceOf_37 : decode cX5_priceOf 37 = .ok (.iadd, 1) := by decide +kernel
theorem dX5_priceOf_38 : decode cX5_priceOf 38 = .ok (.istore_n 2, 1) := by decide +kernel
theorem dX5_priceOf_39 : decode cX5_priceOf 39 = .ok (.iinc 3 1, 3) := by decide +kernel
theorem dX5_priceOf_42 : decode cX5_priceOf 42 = .ok (.goto (-38), 3) := by decide +kernel
theorem dX5_priceOf_45 : decode cX5_priceOf 45 = .ok (.iload_n 2, 1) := by decide +kernel
theorem dX5_priceOf_46 : decode cX5_priceOf 46 = .ok (.ireturn, 1) := by decide +kernel
theorem dX5_cheapestOf_0 : decode cX5_cheapestOf 0 = .ok (.iload_n 1, 1) := by decide +kernel
theorem dX5_cheapestOf_1 : decode cX5_cheapestOf 1 = .ok (.istore_n 2, 1) := by decide +kernel
theorem dX5_cheapestOf_2 : decode cX5_cheapestOf 2 = .ok (.ldc 67, 2) := by decide +kernel
theorem dX5_cheapestOf_4 : decode cX5_cheapestOf 4 = .ok (.istore_n 3, 1) := by decide +kernel
theorem dX5_cheapestOf_5 : decode cX5_cheapestOf 5 = .ok (.iconst 0, 1) := by decide +kernel
theorem dX5_cheapestOf_6 : decode cX5_cheapestOf 6 = .ok (.istore 4, 2) := by decide +kernel
theorem dX5_cheapestOf_8 : decode cX5_cheapestOf 8 = .ok (.iload 4, 2) := by decide +kernel
theorem dX5_cheapestOf_10 : decode cX5_cheapestOf 10 = .ok (.aload_n 0, 1) := by decide +kernel
theorem dX5_cheapestOf_11 : decode cX5_cheapestOf 11 = .ok (.getfield 26, 3) := by decide +kernel
theorem dX5_cheapestOf_14 : decode cX5_cheapestOf 14 = .ok (.if_icmp .ge 39, 3) := by decide +kernel
theorem dX5_cheapestOf_17 : decode cX5_cheapestOf 17 = .ok (.aload_n 0, 1) := by decide +kernel
theorem dX5_cheapestOf_18 : decode cX5_cheapestOf 18 = .ok (.iload 4, 2) := by decide +kernel
theorem dX5_cheapestOf_20 : decode cX5_cheapestOf 20 = .ok (.iload_n 1, 1) := by decide +kernel
theorem dX5_cheapestOf_21 : decode cX5_cheapestOf 21 = .ok (.invokevirtual 47, 3) := by decide +kernel
theorem dX5_cheapestOf_24 : decode cX5_cheapestOf 24 = .ok (.ifCond .eq 23, 3) := by decide +kernel
theorem dX5_cheapestOf_27 : decode cX5_cheapestOf 27 = .ok (.aload_n 0, 1) := by decide +kernel
theorem dX5_cheapestOf_28 : decode cX5_cheapestOf 28 = .ok (.iload 4, 2) := by decide +kernel
theorem dX5_cheapestOf_30 : decode cX5_cheapestOf 30 = .ok (.invokevirtual 71, 3) := by decide +kernel
theorem dX5_cheapestOf_33 : decode cX5_cheapestOf 33 = .ok (.iload_n 3, 1) := by decide +kernel
theorem dX5_cheapestOf_34 : decode cX5_cheapestOf 34 = .ok (.if_icmp .ge 13, 3) := by decide +kernel
theorem dX5_cheapestOf_37 : decode cX5_cheapestOf 37 = .ok (.iload 4, 2) := by decide +kernel
theorem dX5_cheapestOf_39 : decode cX5_cheapestOf 39 = .ok (.istore_n 2, 1) := by decide +kernel
theorem dX5_cheapestOf_40 : decode cX5_cheapestOf 40 = .ok (.aload_n 0, 1) := by decide +kernel
theorem dX5_cheapestOf_41 : decode cX5_cheapestOf 41 = .ok (.iload 4, 2) := by decide +kernel
theorem dX5_cheapestOf_43 : decode cX5_cheapestOf 43 = .ok (.invokevirtual 71, 3) := by decide +kernel
theorem dX5_cheapestOf_46 : decode cX5_cheapestOf 46 = .ok (.istore_n 3, 1) := by decide +kernel
theorem dX5_cheapestOf_47 : decode cX5_cheapestOf 47 = .ok (.iinc 4 1, 3) := by decide +kernel
theorem dX5_cheapestOf_50 : decode cX5_cheapestOf 50 = .ok (.goto (-42), 3) := by decide +kernel
theorem dX5_cheapestOf_53 : decode cX5_cheapestOf 53 = .ok (.iload_n 2, 1) := by decide +kernel
theorem dX5_cheapestOf_54 : decode cX5_cheapestOf 54 = .ok (.ireturn, 1) := by decide +kernel
theorem dX5_meetingOf_0 : decode cX5_meetingOf 0 = .ok (.aload_n 0, 1) := by decide +kernel
theorem dX5_meetingOf_1 : decode cX5_meetingOf 1 = .ok (.iload_n 1, 1) := by decide +kernel
theorem dX5_meetingOf_2 : decode cX5_meetingOf 2 = .ok (.iload_n 2, 1) := by decide +kernel
theorem dX5_meetingOf_3 : decode cX5_meetingOf 3 = .ok (.invokevirtual 47, 3) := by decide +kernel
theorem dX5_meetingOf_6 : decode cX5_meetingOf 6 = .ok (.ifCond .eq 12, 3) := by decide +kernel
theorem dX5_meetingOf_9 : decode cX5_meetingOf 9 = .ok (.aload_n 0, 1) := by decide +kernel
theorem dX5_meetingOf_10 : decode cX5_meetingOf 10 = .ok (.iload_n 1, 1) := by decide +kernel
theorem dX5_meetingOf_11 : decode cX5_meetingOf 11 = .ok (.iload_n 3, 1) := by decide +kernel
theorem dX5_meetingOf_12 : decode cX5_meetingOf 12 = .ok (.invokevirtual 47, 3) := by decide +kernel
theorem dX5_meetingOf_15 : decode cX5_meetingOf 15 = .ok (.ifCond .ne 6, 3) := by decide +kernel
theorem dX5_meetingOf_18 : decode cX5_meetingOf 18 = .ok (.bipush (-9), 2) := by decide +kernel
theorem dX5_meetingOf_20 : decode cX5_meetingOf 20 = .ok (.ireturn, 1) := by decide +kernel
theorem dX5_meetingOf_21 : decode cX5_meetingOf 21 = .ok (.iconst 0, 1) := by decide +kernel
theorem dX5_meetingOf_22 : decode cX5_meetingOf 22 = .ok (.istore 4, 2) := by decide +kernel
theorem dX5_meetingOf_24 : decode cX5_meetingOf 24 = .ok (.iload 4, 2) := by decide +kernel
theorem dX5_meetingOf_26 : decode cX5_meetingOf 26 = .ok (.aload_n 0, 1) := by decide +kernel
theorem dX5_meetingOf_27 : decode cX5_meetingOf 27 = .ok (.getfield 26, 3) := by decide +kernel
theorem dX5_meetingOf_30 : decode cX5_meetingOf 30 = .ok (.if_icmp .ge 45, 3) := by decide +kernel
theorem dX5_meetingOf_33 : decode cX5_meetingOf 33 = .ok (.aload_n 0, 1) := by decide +kernel
theorem dX5_meetingOf_34 : decode cX5_meetingOf 34 = .ok (.iload 4, 2) := by decide +kernel
theorem dX5_meetingOf_36 : decode cX5_meetingOf 36 = .ok (.iload_n 1, 1) := by decide +kernel
theorem dX5_meetingOf_37 : decode cX5_meetingOf 37 = .ok (.iload_n 2, 1) := by decide +kernel
theorem dX5_meetingOf_38 : decode cX5_meetingOf 38 = .ok (.invokevirtual 74, 3) := by decide +kernel
theorem dX5_meetingOf_41 : decode cX5_meetingOf 41 = .ok (.ifCond .eq 28, 3) := by decide +kernel
theorem dX5_meetingOf_44 : decode cX5_meetingOf 44 = .ok (.aload_n 0, 1) := by decide +kernel
theorem dX5_meetingOf_45 : decode cX5_meetingOf 45 = .ok (.iload 4, 2) := by decide +kernel
theorem dX5_meetingOf_47 : decode cX5_meetingOf 47 = .ok (.iload_n 2, 1) := by decide +kernel
theorem dX5_meetingOf_48 : decode cX5_meetingOf 48 = .ok (.iload_n 3, 1) := by decide +kernel
theorem dX5_meetingOf_49 : decode cX5_meetingOf 49 = .ok (.invokevirtual 74, 3) := by decide +kernel
theorem dX5_meetingOf_52 : decode cX5_meetingOf 52 = .ok (.ifCond .eq 17, 3) := by decide +kernel
theorem dX5_meetingOf_55 : decode cX5_meetingOf 55 = .ok (.aload_n 0, 1) := by decide +kernel
theorem dX5_meetingOf_56 : decode cX5_meetingOf 56 = .ok (.iload 4, 2) := by decide +kernel
theorem dX5_meetingOf_58 : decode cX5_meetingOf 58 = .ok (.iload_n 1, 1) := by decide +kernel
theorem dX5_meetingOf_59 : decode cX5_meetingOf 59 = .ok (.iload_n 3, 1) := by decide +kernel
theorem dX5_meetingOf_60 : decode cX5_meetingOf 60 = .ok (.invokevirtual 74, 3) := by decide +kernel
theorem dX5_meetingOf_63 : decode cX5_meetingOf 63 = .ok (.ifCond .eq 6, 3) := by decide +kernel
theorem dX5_meetingOf_66 : decode cX5_meetingOf 66 = .ok (.iload 4, 2) := by decide +kernel
theorem dX5_meetingOf_68 : decode cX5_meetingOf 68 = .ok (.ireturn, 1) := by decide +kernel
theorem dX5_meetingOf_69 : decode cX5_meetingOf 69 = .ok (.iinc 4 1, 3) := by decide +kernel
theorem dX5_meetingOf_72 : decode cX5_meetingOf 72 = .ok (.goto (-48), 3) := by decide +kernel
theorem dX5_meetingOf_75 : decode cX5_meetingOf 75 = .ok (.bipush (-9), 2) := by decide +kernel
theorem dX5_meetingOf_77 : decode cX5_meetingOf 77 = .ok (.ireturn, 1) := by decide +kernel
theorem dX5_onPath_0 : decode cX5_onPath 0 = .ok (.aload_n 0, 1) := by decide +kernel
theorem dX5_onPath_1 : decode cX5_onPath 1 = .ok (.iload_n 2, 1) := by decide +kernel
theorem dX5_onPath_2 : decode cX5_onPath 2 = .ok (.iload_n 1, 1) := by decide +kernel
theorem dX5_onPath_3 : decode cX5_onPath 3 = .ok (.invokevirtual 44, 3) := by decide +kernel
theorem dX5_onPath_6 : decode cX5_onPath 6 = .ok (.aload_n 0, 1) := by decide +kernel
theorem dX5_onPath_7 : decode cX5_onPath 7 = .ok (.iload_n 1, 1) := by decide +kernel
theorem dX5_onPath_8 : decode cX5_onPath 8 = .ok (.iload_n 3, 1) := by decide +kernel
theorem dX5_onPath_9 : decode cX5_onPath 9 = .ok (.invokevirtual 44, 3) := by decide +kernel
theorem dX5_onPath_12 : decode cX5_onPath 12 = .ok (.iadd, 1) := by decide +kernel
theorem dX5_onPath_13 : decode cX5_onPath 13 = .ok (.aload_n 0, 1) := by decide +kernel
theorem dX5_onPath_14 : decode cX5_onPath 14 = .ok (.iload_n 2, 1) := by decide +kernel
theorem dX5_onPath_15 : decode cX5_onPath 15 = .ok (.iload_n 3, 1) := by decide +kernel
theorem dX5_onPath_16 : decode cX5_onPath 16 = .ok (.invokevirtual 44, 3) := by decide +kernel
theorem dX5_onPath_19 : decode cX5_onPath 19 = .ok (.if_icmp .ne 7, 3) := by decide +kernel
theorem dX5_onPath_22 : decode cX5_onPath 22 = .ok (.iconst 1, 1) := by decide +kernel
theorem dX5_onPath_23 : decode cX5_onPath 23 = .ok (.goto 4, 3) := by decide +kernel
theorem dX5_onPath_26 : decode cX5_onPath 26 = .ok (.iconst 0, 1) := by decide +kernel
theorem dX5_onPath_27 : decode cX5_onPath 27 = .ok (.ireturn, 1) := by decide +kernel
theorem dX5_goesOver_0 : decode cX5_goesOver 0 = .ok (.aload_n 0, 1) := by decide +kernel
theorem dX5_goesOver_1 : decode cX5_goesOver 1 = .ok (.getfield 9, 3) := by decide +kernel
theorem dX5_goesOver_4 : decode cX5_goesOver 4 = .ok (.iload_n 3, 1) := by decide +kernel
theorem dX5_goesOver_5 : decode cX5_goesOver 5 = .ok (.iload 4, 2) := by decide +kernel
theorem dX5_goesOver_7 : decode cX5_goesOver 7 = .ok (.invokevirtual 30, 3) := by decide +kernel
theorem dX5_goesOver_10 : decode cX5_goesOver 10 = .ok (.istore 5, 2) := by decide +kernel
theorem dX5_goesOver_12 : decode cX5_goesOver 12 = .ok (.aload_n 0, 1) := by decide +kernel
theorem dX5_goesOver_13 : decode cX5_goesOver 13 = .ok (.iload_n 1, 1) := by decide +kernel
theorem dX5_goesOver_14 : decode cX5_goesOver 14 = .ok (.iload_n 3, 1) := by decide +kernel
theorem dX5_goesOver_15 : decode cX5_goesOver 15 = .ok (.invokevirtual 44, 3) := by decide +kernel
theorem dX5_goesOver_18 : decode cX5_goesOver 18 = .ok (.iload 5, 2) := by decide +kernel
theorem dX5_goesOver_20 : decode cX5_goesOver 20 = .ok (.iadd, 1) := by decide +kernel
theorem dX5_goesOver_21 : decode cX5_goesOver 21 = .ok (.aload_n 0, 1) := by decide +kernel
theorem dX5_goesOver_22 : decode cX5_goesOver 22 = .ok (.iload 4, 2) := by decide +kernel
theorem dX5_goesOver_24 : decode cX5_goesOver 24 = .ok (.iload_n 2, 1) := by decide +kernel
theorem dX5_goesOver_25 : decode cX5_goesOver 25 = .ok (.invokevirtual 44, 3) := by decide +kernel
theorem dX5_goesOver_28 : decode cX5_goesOver 28 = .ok (.iadd, 1) := by decide +kernel
theorem dX5_goesOver_29 : decode cX5_goesOver 29 = .ok (.istore 6, 2) := by decide +kernel
theorem dX5_goesOver_31 : decode cX5_goesOver 31 = .ok (.aload_n 0, 1) := by decide +kernel
theorem dX5_goesOver_32 : decode cX5_goesOver 32 = .ok (.iload_n 1, 1) := by decide +kernel
theorem dX5_goesOver_33 : decode cX5_goesOver 33 = .ok (.iload 4, 2) := by decide +kernel
theorem dX5_goesOver_35 : decode cX5_goesOver 35 = .ok (.invokevirtual 44, 3) := by decide +kernel
theorem dX5_goesOver_38 : decode cX5_goesOver 38 = .ok (.iload 5, 2) := by decide +kernel
theorem dX5_goesOver_40 : decode cX5_goesOver 40 = .ok (.iadd, 1) := by decide +kernel
theorem dX5_goesOver_41 : decode cX5_goesOver 41 = .ok (.aload_n 0, 1) := by decide +kernel
theorem dX5_goesOver_42 : decode cX5_goesOver 42 = .ok (.iload_n 3, 1) := by decide +kernel
theorem dX5_goesOver_43 : decode cX5_goesOver 43 = .ok (.iload_n 2, 1) := by decide +kernel
theorem dX5_goesOver_44 : decode cX5_goesOver 44 = .ok (.invokevirtual 44, 3) := by decide +kernel
theorem dX5_goesOver_47 : decode cX5_goesOver 47 = .ok (.iadd, 1) := by decide +kernel
theorem dX5_goesOver_48 : decode cX5_goesOver 48 = .ok (.istore 7, 2) := by decide +kernel
theorem dX5_goesOver_50 : decode cX5_goesOver 50 = .ok (.iload 6, 2) := by decide +kernel
theorem dX5_goesOver_52 : decode cX5_goesOver 52 = .ok (.iload 7, 2) := by decide +kernel
theorem dX5_goesOver_54 : decode cX5_goesOver 54 = .ok (.invokestatic 39, 3) := by decide +kernel
theorem dX5_goesOver_57 : decode cX5_goesOver 57 = .ok (.aload_n 0, 1) := by decide +kernel
theorem dX5_goesOver_58 : decode cX5_goesOver 58 = .ok (.iload_n 1, 1) := by decide +kernel
theorem dX5_goesOver_59 : decode cX5_goesOver 59 = .ok (.iload_n 2, 1) := by decide +kernel
theorem dX5_goesOver_60 : decode cX5_goesOver 60 = .ok (.invokevirtual 44, 3) := by decide +kernel
theorem dX5_goesOver_63 : decode cX5_goesOver 63 = .ok (.if_icmp .ne 7, 3) := by decide +kernel
theorem dX5_goesOver_66 : decode cX5_goesOver 66 = .ok (.iconst 1, 1) := by decide +kernel
theorem dX5_goesOver_67 : decode cX5_goesOver 67 = .ok (.goto 4, 3) := by decide +kernel
theorem dX5_goesOver_70 : decode cX5_goesOver 70 = .ok (.iconst 0, 1) := by decide +kernel
theorem dX5_goesOver_71 : decode cX5_goesOver 71 = .ok (.ireturn, 1) := by decide +kernel
theorem dX5_evenestEdge_0 : decode cX5_evenestEdge 0 = .ok (.bipush (-9), 2) := by decide +kernel
theorem dX5_evenestEdge_2 : decode cX5_evenestEdge 2 = .ok (.istore_n 2, 1) := by decide +kernel
theorem dX5_evenestEdge_3 : decode cX5_evenestEdge 3 = .ok (.ldc 67, 2) := by decide +kernel
theorem dX5_evenestEdge_5 : decode cX5_evenestEdge 5 = .ok (.istore_n 3, 1) := by decide +kernel
theorem dX5_evenestEdge_6 : decode cX5_evenestEdge 6 = .ok (.iconst 0, 1) := by decide +kernel
theorem dX5_evenestEdge_7 : decode cX5_evenestEdge 7 = .ok (.istore 4, 2) := by decide +kernel
theorem dX5_evenestEdge_9 : decode cX5_evenestEdge 9 = .ok (.iload 4, 2) := by decide +kernel
theorem dX5_evenestEdge_11 : decode cX5_evenestEdge 11 = .ok (.aload_n 0, 1) := by decide +kernel
theorem dX5_evenestEdge_12 : decode cX5_evenestEdge 12 = .ok (.getfield 26, 3) := by decide +kernel
theorem dX5_evenestEdge_15 : decode cX5_evenestEdge 15 = .ok (.if_icmp .ge 84, 3) := by decide +kernel
theorem dX5_evenestEdge_18 : decode cX5_evenestEdge 18 = .ok (.iload 4, 2) := by decide +kernel
theorem dX5_evenestEdge_20 : decode cX5_evenestEdge 20 = .ok (.iconst 1, 1) := by decide +kernel
theorem dX5_evenestEdge_21 : decode cX5_evenestEdge 21 = .ok (.iadd, 1) := by decide +kernel
theorem dX5_evenestEdge_22 : decode cX5_evenestEdge 22 = .ok (.istore 5, 2) := by decide +kernel
theorem dX5_evenestEdge_24 : decode cX5_evenestEdge 24 = .ok (.iload 5, 2) := by decide +kernel
theorem dX5_evenestEdge_26 : decode cX5_evenestEdge 26 = .ok (.aload_n 0, 1) := by decide +kernel
theorem dX5_evenestEdge_27 : decode cX5_evenestEdge 27 = .ok (.getfield 26, 3) := by decide +kernel
theorem dX5_evenestEdge_30 : decode cX5_evenestEdge 30 = .ok (.if_icmp .ge 63, 3) := by decide +kernel
theorem dX5_evenestEdge_33 : decode cX5_evenestEdge 33 = .ok (.aload_n 0, 1) := by decide +kernel
theorem dX5_evenestEdge_34 : decode cX5_evenestEdge 34 = .ok (.getfield 9, 3) := by decide +kernel
theorem dX5_evenestEdge_37 : decode cX5_evenestEdge 37 = .ok (.iload 4, 2) := by decide +kernel
theorem dX5_evenestEdge_39 : decode cX5_evenestEdge 39 = .ok (.iload 5, 2) := by decide +kernel
theorem dX5_evenestEdge_41 : decode cX5_evenestEdge 41 = .ok (.invokevirtual 54, 3) := by decide +kernel
theorem dX5_evenestEdge_44 : decode cX5_evenestEdge 44 = .ok (.ifCond .eq 43, 3) := by decide +kernel
theorem dX5_evenestEdge_47 : decode cX5_evenestEdge 47 = .ok (.aload_n 0, 1) := by decide +kernel
theorem dX5_evenestEdge_48 : decode cX5_evenestEdge 48 = .ok (.iload 4, 2) := by decide +kernel
theorem dX5_evenestEdge_50 : decode cX5_evenestEdge 50 = .ok (.iload_n 1, 1) := by decide +kernel
theorem dX5_evenestEdge_51 : decode cX5_evenestEdge 51 = .ok (.invokevirtual 47, 3) := by decide +kernel
theorem dX5_evenestEdge_54 : decode cX5_evenestEdge 54 = .ok (.ifCond .eq 33, 3) := by decide +kernel
theorem dX5_evenestEdge_57 : decode cX5_evenestEdge 57 = .ok (.aload_n 0, 1) := by decide +kernel
theorem dX5_evenestEdge_58 : decode cX5_evenestEdge 58 = .ok (.iload 4, 2) := by decide +kernel
theorem dX5_evenestEdge_60 : decode cX5_evenestEdge 60 = .ok (.iload 5, 2) := by decide +kernel
theorem dX5_evenestEdge_62 : decode cX5_evenestEdge 62 = .ok (.invokevirtual 78, 3) := by decide +kernel
theorem dX5_evenestEdge_65 : decode cX5_evenestEdge 65 = .ok (.iload_n 3, 1) := by decide +kernel
theorem dX5_evenestEdge_66 : decode cX5_evenestEdge 66 = .ok (.if_icmp .ge 21, 3) := by decide +kernel
theorem dX5_evenestEdge_69 : decode cX5_evenestEdge 69 = .ok (.bipush 100, 2) := by decide +kernel
theorem dX5_evenestEdge_71 : decode cX5_evenestEdge 71 = .ok (.iload 4, 2) := by decide +kernel
theorem dX5_evenestEdge_73 : decode cX5_evenestEdge 73 = .ok (.imul, 1) := by decide +kernel
theorem dX5_evenestEdge_74 : decode cX5_evenestEdge 74 = .ok (.iload 5, 2) := by decide +kernel
theorem dX5_evenestEdge_76 : decode cX5_evenestEdge 76 = .ok (.iadd, 1) := by decide +kernel
theorem dX5_evenestEdge_77 : decode cX5_evenestEdge 77 = .ok (.istore_n 2, 1) := by decide +kernel
theorem dX5_evenestEdge_78 : decode cX5_evenestEdge 78 = .ok (.aload_n 0, 1) := by decide +kernel
theorem dX5_evenestEdge_79 : decode cX5_evenestEdge 79 = .ok (.iload 4, 2) := by decide +kernel
theorem dX5_evenestEdge_81 : decode cX5_evenestEdge 81 = .ok (.iload 5, 2) := by decide +kernel
theorem dX5_evenestEdge_83 : decode cX5_evenestEdge 83 = .ok (.invokevirtual 78, 3) := by decide +kernel
theorem dX5_evenestEdge_86 : decode cX5_evenestEdge 86 = .ok (.istore_n 3, 1) := by decide +kernel
theorem dX5_evenestEdge_87 : decode cX5_evenestEdge 87 = .ok (.iinc 5 1, 3) := by decide +kernel
theorem dX5_evenestEdge_90 : decode cX5_evenestEdge 90 = .ok (.goto (-66), 3) := by decide +kernel
theorem dX5_evenestEdge_93 : decode cX5_evenestEdge 93 = .ok (.iinc 4 1, 3) := by decide +kernel
theorem dX5_evenestEdge_96 : decode cX5_evenestEdge 96 = .ok (.goto (-87), 3) := by decide +kernel
theorem dX5_evenestEdge_99 : decode cX5_evenestEdge 99 = .ok (.iload_n 2, 1) := by decide +kernel
theorem dX5_evenestEdge_100 : decode cX5_evenestEdge 100 = .ok (.ireturn, 1) := by decide +kernel
theorem dX5_heavierPart_0 : decode cX5_heavierPart 0 = .ok (.iconst 0, 1) := by decide +kernel
theorem dX5_heavierPart_1 : decode cX5_heavierPart 1 = .ok (.istore_n 3, 1) := by decide +kernel
theorem dX5_heavierPart_2 : decode cX5_heavierPart 2 = .ok (.iconst 0, 1) := by decide +kernel
theorem dX5_heavierPart_3 : decode cX5_heavierPart 3 = .ok (.istore 4, 2) := by decide +kernel
theorem dX5_heavierPart_5 : decode cX5_heavierPart 5 = .ok (.iconst 0, 1) := by decide +kernel
theorem dX5_heavierPart_6 : decode cX5_heavierPart 6 = .ok (.istore 5, 2) := by decide +kernel
theorem dX5_heavierPart_8 : decode cX5_heavierPart 8 = .ok (.iload 5, 2) := by decide +kernel
theorem dX5_heavierPart_10 : decode cX5_heavierPart 10 = .ok (.aload_n 0, 1) := by decide +kernel
theorem dX5_heavierPart_11 : decode cX5_heavierPart 11 = .ok (.getfield 26, 3) := by decide +kernel
theorem dX5_heavierPart_14 : decode cX5_heavierPart 14 = .ok (.if_icmp .ge 75, 3) := by decide +kernel
theorem dX5_heavierPart_17 : decode cX5_heavierPart 17 = .ok (.aload_n 0, 1) := by decide +kernel
theorem dX5_heavierPart_18 : decode cX5_heavierPart 18 = .ok (.iload 5, 2) := by decide +kernel
theorem dX5_heavierPart_20 : decode cX5_heavierPart 20 = .ok (.iload_n 1, 1) := by decide +kernel
theorem dX5_heavierPart_21 : decode cX5_heavierPart 21 = .ok (.invokevirtual 47, 3) := by decide +kernel
theorem dX5_heavierPart_24 : decode cX5_heavierPart 24 = .ok (.ifCond .eq 35, 3) := by decide +kernel
theorem dX5_heavierPart_27 : decode cX5_heavierPart 27 = .ok (.aload_n 0, 1) := by decide +kernel
theorem dX5_heavierPart_28 : decode cX5_heavierPart 28 = .ok (.iload 5, 2) := by decide +kernel
theorem dX5_heavierPart_30 : decode cX5_heavierPart 30 = .ok (.iload_n 1, 1) := by decide +kernel
theorem dX5_heavierPart_31 : decode cX5_heavierPart 31 = .ok (.invokevirtual 44, 3) := by decide +kernel
theorem dX5_heavierPart_34 : decode cX5_heavierPart 34 = .ok (.aload_n 0, 1) := by decide +kernel
theorem dX5_heavierPart_35 : decode cX5_heavierPart 35 = .ok (.iload 5, 2) := by decide +kernel
theorem dX5_heavierPart_37 : decode cX5_heavierPart 37 = .ok (.iload_n 2, 1) := by decide +kernel
theorem dX5_heavierPart_38 : decode cX5_heavierPart 38 = .ok (.invokevirtual 44, 3) := by decide +kernel
theorem dX5_heavierPart_41 : decode cX5_heavierPart 41 = .ok (.if_icmp .ge 18, 3) := by decide +kernel
theorem dX5_heavierPart_44 : decode cX5_heavierPart 44 = .ok (.iload_n 3, 1) := by decide +kernel
theorem dX5_heavierPart_45 : decode cX5_heavierPart 45 = .ok (.aload_n 0, 1) := by decide +kernel
theorem dX5_heavierPart_46 : decode cX5_heavierPart 46 = .ok (.getfield 9, 3) := by decide +kernel
theorem dX5_heavierPart_49 : decode cX5_heavierPart 49 = .ok (.iload 5, 2) := by decide +kernel
theorem dX5_heavierPart_51 : decode cX5_heavierPart 51 = .ok (.invokevirtual 68, 3) := by decide +kernel
theorem dX5_heavierPart_54 : decode cX5_heavierPart 54 = .ok (.iadd, 1) := by decide +kernel
theorem dX5_heavierPart_55 : decode cX5_heavierPart 55 = .ok (.istore_n 3, 1) := by decide +kernel
theorem dX5_heavierPart_56 : decode cX5_heavierPart 56 = .ok (.goto 27, 3) := by decide +kernel
theorem dX5_heavierPart_59 : decode cX5_heavierPart 59 = .ok (.aload_n 0, 1) := by decide +kernel
theorem dX5_heavierPart_60 : decode cX5_heavierPart 60 = .ok (.iload 5, 2) := by decide +kernel
theorem dX5_heavierPart_62 : decode cX5_heavierPart 62 = .ok (.iload_n 1, 1) := by decide +kernel
theorem dX5_heavierPart_63 : decode cX5_heavierPart 63 = .ok (.invokevirtual 47, 3) := by decide +kernel
theorem dX5_heavierPart_66 : decode cX5_heavierPart 66 = .ok (.ifCond .eq 17, 3) := by decide +kernel
theorem dX5_heavierPart_69 : decode cX5_heavierPart 69 = .ok (.iload 4, 2) := by decide +kernel
theorem dX5_heavierPart_71 : decode cX5_heavierPart 71 = .ok (.aload_n 0, 1) := by decide +kernel
theorem dX5_heavierPart_72 : decode cX5_heavierPart 72 = .ok (.getfield 9, 3) := by decide +kernel
theorem dX5_heavierPart_75 : decode cX5_heavierPart 75 = .ok (.iload 5, 2) := by decide +kernel
theorem dX5_heavierPart_77 : decode cX5_heavierPart 77 = .ok (.invokevirtual 68, 3) := by decide +kernel
theorem dX5_heavierPart_80 : decode cX5_heavierPart 80 = .ok (.iadd, 1) := by decide +kernel
theorem dX5_heavierPart_81 : decode cX5_heavierPart 81 = .ok (.istore 4, 2) := by decide +kernel
theorem dX5_heavierPart_83 : decode cX5_heavierPart 83 = .ok (.iinc 5 1, 3) := by decide +kernel
theorem dX5_heavierPart_86 : decode cX5_heavierPart 86 = .ok (.goto (-78), 3) := by decide +kernel
theorem dX5_heavierPart_89 : decode cX5_heavierPart 89 = .ok (.iload_n 3, 1) := by decide +kernel
theorem dX5_heavierPart_90 : decode cX5_heavierPart 90 = .ok (.iload 4, 2) := by decide +kernel
theorem dX5_heavierPart_92 : decode cX5_heavierPart 92 = .ok (.invokestatic 81, 3) := by decide +kernel
theorem dX5_heavierPart_95 : decode cX5_heavierPart 95 = .ok (.ireturn, 1) := by decide +kernel
theorem dX5_reachOf_0 : decode cX5_reachOf 0 = .ok (.lconst 0, 1) := by decide +kernel
theorem dX5_reachOf_1 : decode cX5_reachOf 1 = .ok (.lstore_n 3, 1) := by decide +kernel
theorem dX5_reachOf_2 : decode cX5_reachOf 2 = .ok (.iconst 0, 1) := by decide +kernel
theorem dX5_reachOf_3 : decode cX5_reachOf 3 = .ok (.istore 5, 2) := by decide +kernel
theorem dX5_reachOf_5 : decode cX5_reachOf 5 = .ok (.iload 5, 2) := by decide +kernel
theorem dX5_reachOf_7 : decode cX5_reachOf 7 = .ok (.aload_n 0, 1) := by decide +kernel
theorem dX5_reachOf_8 : decode cX5_reachOf 8 = .ok (.getfield 26, 3) := by decide +kernel
theorem dX5_reachOf_11 : decode cX5_reachOf 11 = .ok (.if_icmp .ge 41, 3) := by decide +kernel
theorem dX5_reachOf_14 : decode cX5_reachOf 14 = .ok (.aload_n 0, 1) := by decide +kernel
theorem dX5_reachOf_15 : decode cX5_reachOf 15 = .ok (.iload 5, 2) := by decide +kernel
theorem dX5_reachOf_17 : decode cX5_reachOf 17 = .ok (.iload_n 1, 1) := by decide +kernel
theorem dX5_reachOf_18 : decode cX5_reachOf 18 = .ok (.invokevirtual 47, 3) := by decide +kernel
theorem dX5_reachOf_21 : decode cX5_reachOf 21 = .ok (.ifCond .eq 25, 3) := by decide +kernel
theorem dX5_reachOf_24 : decode cX5_reachOf 24 = .ok (.lload_n 3, 1) := by decide +kernel
theorem dX5_reachOf_25 : decode cX5_reachOf 25 = .ok (.aload_n 0, 1) := by decide +kernel
theorem dX5_reachOf_26 : decode cX5_reachOf 26 = .ok (.getfield 9, 3) := by decide +kernel
theorem dX5_reachOf_29 : decode cX5_reachOf 29 = .ok (.iload 5, 2) := by decide +kernel
theorem dX5_reachOf_31 : decode cX5_reachOf 31 = .ok (.invokevirtual 68, 3) := by decide +kernel
theorem dX5_reachOf_34 : decode cX5_reachOf 34 = .ok (.i2l, 1) := by decide +kernel
theorem dX5_reachOf_35 : decode cX5_reachOf 35 = .ok (.aload_n 0, 1) := by decide +kernel
theorem dX5_reachOf_36 : decode cX5_reachOf 36 = .ok (.iload 5, 2) := by decide +kernel
theorem dX5_reachOf_38 : decode cX5_reachOf 38 = .ok (.iload_n 1, 1) := by decide +kernel
theorem dX5_reachOf_39 : decode cX5_reachOf 39 = .ok (.iload_n 2, 1) := by decide +kernel
theorem dX5_reachOf_40 : decode cX5_reachOf 40 = .ok (.invokevirtual 84, 3) := by decide +kernel
theorem dX5_reachOf_43 : decode cX5_reachOf 43 = .ok (.lmul, 1) := by decide +kernel
theorem dX5_reachOf_44 : decode cX5_reachOf 44 = .ok (.ladd, 1) := by decide +kernel
theorem dX5_reachOf_45 : decode cX5_reachOf 45 = .ok (.lstore_n 3, 1) := by decide +kernel
theorem dX5_reachOf_46 : decode cX5_reachOf 46 = .ok (.iinc 5 1, 3) := by decide +kernel
theorem dX5_reachOf_49 : decode cX5_reachOf 49 = .ok (.goto (-44), 3) := by decide +kernel
theorem dX5_reachOf_52 : decode cX5_reachOf 52 = .ok (.lload_n 3, 1) := by decide +kernel
theorem dX5_reachOf_53 : decode cX5_reachOf 53 = .ok (.lreturn, 1) := by decide +kernel
theorem dX5_chanceOfPath_0 : decode cX5_chanceOfPath 0 = .ok (.ldc2_w 88, 3) := by decide +kernel
theorem dX5_chanceOfPath_3 : decode cX5_chanceOfPath 3 = .ok (.lstore 4, 2) := by decide +kernel
theorem dX5_chanceOfPath_5 : decode cX5_chanceOfPath 5 = .ok (.iload_n 1, 1) := by decide +kernel
theorem dX5_chanceOfPath_6 : decode cX5_chanceOfPath 6 = .ok (.istore 6, 2) := by decide +kernel
theorem dX5_chanceOfPath_8 : decode cX5_chanceOfPath 8 = .ok (.iconst 0, 1) := by decide +kernel
theorem dX5_chanceOfPath_9 : decode cX5_chanceOfPath 9 = .ok (.istore 7, 2) := by decide +kernel
theorem dX5_chanceOfPath_11 : decode cX5_chanceOfPath 11 = .ok (.iload 7, 2) := by decide +kernel
theorem dX5_chanceOfPath_13 : decode cX5_chanceOfPath 13 = .ok (.bipush 12, 2) := by decide +kernel
theorem dX5_chanceOfPath_15 : decode cX5_chanceOfPath 15 = .ok (.if_icmp .ge 35, 3) := by decide +kernel
theorem dX5_chanceOfPath_18 : decode cX5_chanceOfPath 18 = .ok (.iload 6, 2) := by decide +kernel
theorem dX5_chanceOfPath_20 : decode cX5_chanceOfPath 20 = .ok (.iload_n 2, 1) := by decide +kernel
theorem dX5_chanceOfPath_21 : decode cX5_chanceOfPath 21 = .ok (.if_icmp .eq 29, 3) := by decide +kernel
theorem dX5_chanceOfPath_24 : decode cX5_chanceOfPath 24 = .ok (.lload 4, 2) := by decide +kernel
theorem dX5_chanceOfPath_26 : decode cX5_chanceOfPath 26 = .ok (.ldc2_w 90, 3) := by decide +kernel
theorem dX5_chanceOfPath_29 : decode cX5_chanceOfPath 29 = .ok (.ldiv, 1) := by decide +kernel
theorem dX5_chanceOfPath_30 : decode cX5_chanceOfPath 30 = .ok (.iload_n 3, 1) := by decide +kernel
theorem dX5_chanceOfPath_31 : decode cX5_chanceOfPath 31 = .ok (.i2l, 1) := by decide +kernel
theorem dX5_chanceOfPath_32 : decode cX5_chanceOfPath 32 = .ok (.lmul, 1) := by decide +kernel
theorem dX5_chanceOfPath_33 : decode cX5_chanceOfPath 33 = .ok (.lstore 4, 2) := by decide +kernel
theorem dX5_chanceOfPath_35 : decode cX5_chanceOfPath 35 = .ok (.aload_n 0, 1) := by decide +kernel
theorem dX5_chanceOfPath_36 : decode cX5_chanceOfPath 36 = .ok (.iload 6, 2) := by decide +kernel
theorem dX5_chanceOfPath_38 : decode cX5_chanceOfPath 38 = .ok (.iload_n 2, 1) := by decide +kernel
theorem dX5_chanceOfPath_39 : decode cX5_chanceOfPath 39 = .ok (.invokevirtual 51, 3) := by decide +kernel
theorem dX5_chanceOfPath_42 : decode cX5_chanceOfPath 42 = .ok (.istore 6, 2) := by decide +kernel
theorem dX5_chanceOfPath_44 : decode cX5_chanceOfPath 44 = .ok (.iinc 7 1, 3) := by decide +kernel
theorem dX5_chanceOfPath_47 : decode cX5_chanceOfPath 47 = .ok (.goto (-36), 3) := by decide +kernel
theorem dX5_chanceOfPath_50 : decode cX5_chanceOfPath 50 = .ok (.lload 4, 2) := by decide +kernel
theorem dX5_chanceOfPath_52 : decode cX5_chanceOfPath 52 = .ok (.lreturn, 1) := by decide +kernel
theorem dX6_init_0 : decode cX6_init 0 = .ok (.aload_n 0, 1) := by decide +kernel
theorem dX6_init_1 : decode cX6_init 1 = .ok (.invokespecial 1, 3) := by decide +kernel
theorem dX6_init_4 : decode cX6_init 4 = .ok (.aload_n 0, 1) := by decide +kernel
theorem dX6_init_5 : decode cX6_init 5 = .ok (.new 7, 3) := by decide +kernel
theorem dX6_init_8 : decode cX6_init 8 = .ok (.dup, 1) := by decide +kernel
theorem dX6_init_9 : decode cX6_init 9 = .ok (.invokespecial 9, 3) := by decide +kernel
theorem dX6_init_12 : decode cX6_init 12 = .ok (.putfield 10, 3) := by decide +kernel
theorem dX6_init_15 : decode cX6_init 15 = .ok (.aload_n 0, 1) := by decide +kernel
theorem dX6_init_16 : decode cX6_init 16 = .ok (.new 16, 3) := by decide +kernel
theorem dX6_init_19 : decode cX6_init 19 = .ok (.dup, 1) := by decide +kernel
theorem dX6_init_20 : decode cX6_init 20 = .ok (.aload_n 0, 1) := by decide +kernel
theorem dX6_init_21 : decode cX6_init 21 = .ok (.getfield 10, 3) := by decide +kernel
theorem dX6_init_24 : decode cX6_init 24 = .ok (.invokespecial 18, 3) := by decide +kernel
theorem dX6_init_27 : decode cX6_init 27 = .ok (.putfield 21, 3) := by decide +kernel
theorem dX6_init_30 : decode cX6_init 30 = .ok (.aload_n 0, 1) := by decide +kernel
theorem dX6_init_31 : decode cX6_init 31 = .ok (.new 7, 3) := by decide +kernel
theorem dX6_init_34 : decode cX6_init 34 = .ok (.dup, 1) := by decide +kernel
theorem dX6_init_35 : decode cX6_init 35 = .ok (.invokespecial 9, 3) := by decide +kernel
theorem dX6_init_38 : decode cX6_init 38 = .ok (.putfield 25, 3) := by decide +kernel
theorem dX6_init_41 : decode cX6_init 41 = .ok (.aload_n 0, 1) := by decide +kernel
theorem dX6_init_42 : decode cX6_init 42 = .ok (.new 16, 3) := by decide +kernel
theorem dX6_init_45 : decode cX6_init 45 = .ok (.dup, 1) := by decide +kernel
theorem dX6_init_46 : decode cX6_init 46 = .ok (.aload_n 0, 1) := by decide +kernel
theorem dX6_init_47 : decode cX6_init 47 = .ok (.getfield 25, 3) := by decide +kernel
theorem dX6_init_50 : decode cX6_init 50 = .ok (.invokespecial 18, 3) := by decide +kernel
theorem dX6_init_53 : decode cX6_init 53 = .ok (.putfield 28, 3) := by decide +kernel
theorem dX6_init_56 : decode cX6_init 56 = .ok (.aload_n 0, 1) := by decide +kernel
theorem dX6_init_57 : decode cX6_init 57 = .ok (.new 31, 3) := by decide +kernel
theorem dX6_init_60 : decode cX6_init 60 = .ok (.dup, 1) := by decide +kernel
theorem dX6_init_61 : decode cX6_init 61 = .ok (.invokespecial 33, 3) := by decide +kernel
theorem dX6_init_64 : decode cX6_init 64 = .ok (.putfield 34, 3) := by decide +kernel
theorem dX6_init_67 : decode cX6_init 67 = .ok (.aload_n 0, 1) := by decide +kernel
theorem dX6_init_68 : decode cX6_init 68 = .ok (.new 38, 3) := by decide +kernel
theorem dX6_init_71 : decode cX6_init 71 = .ok (.dup, 1) := by decide +kernel
theorem dX6_init_72 : decode cX6_init 72 = .ok (.invokespecial 40, 3) := by decide +kernel
theorem dX6_init_75 : decode cX6_init 75 = .ok (.putfield 41, 3) := by decide +kernel
theorem dX6_init_78 : decode cX6_init 78 = .ok (.aload_n 0, 1) := by decide +kernel
theorem dX6_init_79 : decode cX6_init 79 = .ok (.new 45, 3) := by decide +kernel
theorem dX6_init_82 : decode cX6_init 82 = .ok (.dup, 1) := by decide +kernel
theorem dX6_init_83 : decode cX6_init 83 = .ok (.invokespecial 47, 3) := by decide +kernel
theorem dX6_init_86 : decode cX6_init 86 = .ok (.putfield 48, 3) := by decide +kernel
theorem dX6_init_89 : decode cX6_init 89 = .ok (.aload_n 0, 1) := by decide +kernel
theorem dX6_init_90 : decode cX6_init 90 = .ok (.new 52, 3) := by decide +kernel
theorem dX6_init_93 : decode cX6_init 93 = .ok (.dup, 1) := by decide +kernel
theorem dX6_init_94 : decode cX6_init 94 = .ok (.invokespecial 54, 3) := by decide +kernel
theorem dX6_init_97 : decode cX6_init 97 = .ok (.putfield 55, 3) := by decide +kernel
theorem dX6_init_100 : decode cX6_init 100 = .ok (.aload_n 0, 1) := by decide +kernel
theorem dX6_init_101 : decode cX6_init 101 = .ok (.iconst 2, 1) := by decide +kernel
theorem dX6_init_102 : decode cX6_init 102 = .ok (.anewarray 7, 3) := by decide +kernel
theorem dX6_init_105 : decode cX6_init 105 = .ok (.putfield 59, 3) := by decide +kernel
theorem dX6_init_108 : decode cX6_init 108 = .ok (.iconst 0, 1) := by decide +kernel
theorem dX6_init_109 : decode cX6_init 109 = .ok (.istore_n 1, 1) := by decide +kernel
theorem dX6_init_110 : decode cX6_init 110 = .ok (.iload_n 1, 1) := by decide +kernel
theorem dX6_init_111 : decode cX6_init 111 = .ok (.iconst 2, 1) := by decide +kernel
theorem dX6_init_112 : decode cX6_init 112 = .ok (.if_icmp .ge 22, 3) := by decide +kernel
theorem dX6_init_115 : decode cX6_init 115 = .ok (.aload_n 0, 1) := by decide +kernel
theorem dX6_init_116 : decode cX6_init 116 = .ok (.getfield 59, 3) := by decide +kernel
theorem dX6_init_119 : decode cX6_init 119 = .ok (.iload_n 1, 1) := by decide +kernel
theorem dX6_init_120 : decode cX6_init 120 = .ok (.new 7, 3) := by decide +kernel
theorem dX6_init_123 : decode cX6_init 123 = .ok (.dup, 1) := by decide +kernel
theorem dX6_init_124 : decode cX6_init 124 = .ok (.invokespecial 9, 3) := by decide +kernel
theorem dX6_init_127 : decode cX6_init 127 = .ok (.aastore, 1) := by decide +kernel
theorem dX6_init_128 : decode cX6_init 128 = .ok (.iinc 1 1, 3) := by decide +kernel
theorem dX6_init_131 : decode cX6_init 131 = .ok (.goto (-21), 3) := by decide +kernel
theorem dX6_init_134 : decode cX6_init 134 = .ok (.aload_n 0, 1) := by decide +kernel
theorem dX6_init_135 : decode cX6_init 135 = .ok (.iconst 2, 1) := by decide +kernel
theorem dX6_init_136 : decode cX6_init 136 = .ok (.newarray .boolean, 2) := by decide +kernel
theorem dX6_init_138 : decode cX6_init 138 = .ok (.putfield 63, 3) := by decide +kernel
theorem dX6_init_141 : decode cX6_init 141 = .ok (.return_, 1) := by decide +kernel
theorem dX6_append_0 : decode cX6_append 0 = .ok (.iload_n 1, 1) := by decide +kernel
theorem dX6_append_1 : decode cX6_append 1 = .ok (.ifCond .lt 10, 3) := by decide +kernel
theorem dX6_append_4 : decode cX6_append 4 = .ok (.iload_n 1, 1) := by decide +kernel
theorem dX6_append_5 : decode cX6_append 5 = .ok (.sipush 255, 3) := by decide +kernel
theorem dX6_append_8 : decode cX6_append 8 = .ok (.if_icmp .le 6, 3) := by decide +kernel
theorem dX6_append_11 : decode cX6_append 11 = .ok (.bipush (-2), 2) := by decide +kernel
theorem dX6_append_13 : decode cX6_append 13 = .ok (.ireturn, 1) := by decide +kernel
theorem dX6_append_14 : decode cX6_append 14 = .ok (.aload_n 0, 1) := by decide +kernel
theorem dX6_append_15 : decode cX6_append 15 = .ok (.getfield 41, 3) := by decide +kernel
theorem dX6_append_18 : decode cX6_append 18 = .ok (.iload_n 1, 1) := by decide +kernel
theorem dX6_append_19 : decode cX6_append 19 = .ok (.invokevirtual 67, 3) := by decide +kernel
theorem dX6_append_22 : decode cX6_append 22 = .ok (.ifCond .eq 13, 3) := by decide +kernel
theorem dX6_append_25 : decode cX6_append 25 = .ok (.aload_n 0, 1) := by decide +kernel
theorem dX6_append_26 : decode cX6_append 26 = .ok (.getfield 41, 3) := by decide +kernel
theorem dX6_append_29 : decode cX6_append 29 = .ok (.invokevirtual 71, 3) := by decide +kernel
theorem dX6_append_32 : decode cX6_append 32 = .ok (.goto 5, 3) := by decide +kernel
theorem dX6_append_35 : decode cX6_append 35 = .ok (.bipush (-4), 2) := by decide +kernel
theorem dX6_append_37 : decode cX6_append 37 = .ok (.ireturn, 1) := by decide +kernel
theorem dX6_clearText_0 : decode cX6_clearText 0 = .ok (.aload_n 0, 1) := by decide +kernel
theorem dX6_clearText_1 : decode cX6_clearText 1 = .ok (.getfield 41, 3) := by decide +kernel
theorem dX6_clearText_4 : decode cX6_clearText 4 = .ok (.invokevirtual 71, 3) := by decide +kernel
theorem dX6_clearText_7 : decode cX6_clearText 7 = .ok (.istore_n 1, 1) := by decide +kernel
theorem dX6_clearText_8 : decode cX6_clearText 8 = .ok (.aload_n 0, 1) := by decide +kernel
theorem dX6_clearText_9 : decode cX6_clearText 9 = .ok (.getfield 41, 3) := by decide +kernel
theorem dX6_clearText_12 : decode cX6_clearText 12 = .ok (.invokevirtual 75, 3) := by decide +kernel
theorem dX6_clearText_15 : decode cX6_clearText 15 = .ok (.iload_n 1, 1) := by decide +kernel
theorem dX6_clearText_16 : decode cX6_clearText 16 = .ok (.ireturn, 1) := by decide +kernel
theorem dX6_errorPosition_0 : decode cX6_errorPosition 0 = .ok (.aload_n 0, 1) := by decide +kernel
theorem dX6_errorPosition_1 : decode cX6_errorPosition 1 = .ok (.getfield 41, 3) := by decide +kernel
theorem dX6_errorPosition_4 : decode cX6_errorPosition 4 = .ok (.aload_n 0, 1) := by decide +kernel
theorem dX6_errorPosition_5 : decode cX6_errorPosition 5 = .ok (.getfield 25, 3) := by decide +kernel
theorem dX6_errorPosition_8 : decode cX6_errorPosition 8 = .ok (.invokevirtual 78, 3) := by decide +kernel
theorem dX6_errorPosition_11 : decode cX6_errorPosition 11 = .ok (.ireturn, 1) := by decide +kernel
theorem dX6_load_0 : decode cX6_load 0 = .ok (.aload_n 0, 1) := by decide +kernel
theorem dX6_load_1 : decode cX6_load 1 = .ok (.getfield 41, 3) := by decide +kernel
theorem dX6_load_4 : decode cX6_load 4 = .ok (.aload_n 0, 1) := by decide +kernel
theorem dX6_load_5 : decode cX6_load 5 = .ok (.getfield 25, 3) := by decide +kernel
theorem dX6_load_8 : decode cX6_load 8 = .ok (.invokevirtual 78, 3) := by decide +kernel
theorem dX6_load_11 : decode cX6_load 11 = .ok (.bipush (-9), 2) := by decide +kernel
theorem dX6_load_13 : decode cX6_load 13 = .ok (.if_icmp .eq 6, 3) := by decide +kernel
theorem dX6_load_16 : decode cX6_load 16 = .ok (.bipush (-3), 2) := by decide +kernel
theorem dX6_load_18 : decode cX6_load 18 = .ok (.ireturn, 1) := by decide +kernel
theorem dX6_load_19 : decode cX6_load 19 = .ok (.aload_n 0, 1) := by decide +kernel
theorem dX6_load_20 : decode cX6_load 20 = .ok (.getfield 10, 3) := by decide +kernel
theorem dX6_load_23 : decode cX6_load 23 = .ok (.aload_n 0, 1) := by decide +kernel
theorem dX6_load_24 : decode cX6_load 24 = .ok (.getfield 25, 3) := by decide +kernel
theorem dX6_load_27 : decode cX6_load 27 = .ok (.invokevirtual 82, 3) := by decide +kernel
theorem dX6_load_30 : decode cX6_load 30 = .ok (.aload_n 0, 1) := by decide +kernel
theorem dX6_load_31 : decode cX6_load 31 = .ok (.getfield 48, 3) := by decide +kernel
theorem dX6_load_34 : decode cX6_load 34 = .ok (.invokevirtual 85, 3) := by decide +kernel
theorem dX6_load_37 : decode cX6_load 37 = .ok (.aload_n 0, 1) := by decide +kernel
theorem dX6_load_38 : decode cX6_load 38 = .ok (.invokevirtual 88, 3) := by decide +kernel
theorem dX6_load_41 : decode cX6_load 41 = .ok (.aload_n 0, 1) := by decide +kernel
theorem dX6_load_42 : decode cX6_load 42 = .ok (.getfield 10, 3) := by decide +kernel
theorem dX6_load_45 : decode cX6_load 45 = .ok (.invokevirtual 91, 3) := by decide +kernel
theorem dX6_load_48 : decode cX6_load 48 = .ok (.ireturn, 1) := by decide +kernel
theorem dX6_emptySlots_0 : decode cX6_emptySlots 0 = .ok (.iconst 0, 1) := by decide +kernel
theorem dX6_emptySlots_1 : decode cX6_emptySlots 1 = .ok (.istore_n 1, 1) := by decide +kernel
theorem dX6_emptySlots_2 : decode cX6_emptySlots 2 = .ok (.iload_n 1, 1) := by decide +kernel
theorem dX6_emptySlots_3 : decode cX6_emptySlots 3 = .ok (.iconst 2, 1) := by decide +kernel
theorem dX6_emptySlots_4 : decode cX6_emptySlots 4 = .ok (.if_icmp .ge 16, 3) := by decide +kernel
theorem dX6_emptySlots_7 : decode cX6_emptySlots 7 = .ok (.aload_n 0, 1) := by decide +kernel
theorem dX6_emptySlots_8 : decode cX6_emptySlots 8 = .ok (.getfield 63, 3) := by decide +kernel
theorem dX6_emptySlots_11 : decode cX6_emptySlots 11 = .ok (.iload_n 1, 1) := by decide +kernel
theorem dX6_emptySlots_12 : decode cX6_emptySlots 12 = .ok (.iconst 0, 1) := by decide +kernel
theorem dX6_emptySlots_13 : decode cX6_emptySlots 13 = .ok (.bastore, 1) := by decide +kernel
theorem dX6_emptySlots_14 : decode cX6_emptySlots 14 = .ok (.iinc 1 1, 3) := by decide +kernel
theorem dX6_emptySlots_17 : decode cX6_emptySlots 17 = .ok (.goto (-15), 3) := by decide +kernel
theorem dX6_emptySlots_20 : decode cX6_emptySlots 20 = .ok (.return_, 1) := by decide +kernel
theorem dX6_vertexWeight_0 : decode cX6_vertexWeight 0 = .ok (.aload_n 0, 1) := by decide +kernel
theorem dX6_vertexWeight_1 : decode cX6_vertexWeight 1 = .ok (.getfield 10, 3) := by decide +kernel
theorem dX6_vertexWeight_4 : decode cX6_vertexWeight 4 = .ok (.iload_n 1, 1) := by decide +kernel
theorem dX6_vertexWeight_5 : decode cX6_vertexWeight 5 = .ok (.invokevirtual 94, 3) := by decide +kernel
theorem dX6_vertexWeight_8 : decode cX6_vertexWeight 8 = .ok (.ifCond .eq 14, 3) := by decide +kernel
theorem dX6_vertexWeight_11 : decode cX6_vertexWeight 11 = .ok (.aload_n 0, 1) := by decide +kernel
theorem dX6_vertexWeight_12 : decode cX6_vertexWeight 12 = .ok (.getfield 10, 3) := by decide +kernel
theorem dX6_vertexWeight_15 : decode cX6_vertexWeight 15 = .ok (.iload_n 1, 1) := by decide +kernel
theorem dX6_vertexWeight_16 : decode cX6_vertexWeight 16 = .ok (.invokevirtual 97, 3) := by decide +kernel
theorem dX6_vertexWeight_19 : decode cX6_vertexWeight 19 = .ok (.goto 4, 3) := by decide +kernel
theorem dX6_vertexWeight_22 : decode cX6_vertexWeight 22 = .ok (.iconst (-1), 1) := by decide +kernel
theorem dX6_vertexWeight_23 : decode cX6_vertexWeight 23 = .ok (.ireturn, 1) := by decide +kernel
theorem dX6_edgeWeight_0 : decode cX6_edgeWeight 0 = .ok (.aload_n 0, 1) := by decide +kernel
theorem dX6_edgeWeight_1 : decode cX6_edgeWeight 1 = .ok (.getfield 10, 3) := by decide +kernel
theorem dX6_edgeWeight_4 : decode cX6_edgeWeight 4 = .ok (.iload_n 1, 1) := by decide +kernel
theorem dX6_edgeWeight_5 : decode cX6_edgeWeight 5 = .ok (.iload_n 2, 1) := by decide +kernel
theorem dX6_edgeWeight_6 : decode cX6_edgeWeight 6 = .ok (.invokevirtual 101, 3) := by decide +kernel
theorem dX6_edgeWeight_9 : decode cX6_edgeWeight 9 = .ok (.ifCond .ne 5, 3) := by decide +kernel
theorem dX6_edgeWeight_12 : decode cX6_edgeWeight 12 = .ok (.iconst (-1), 1) := by decide +kernel
theorem dX6_edgeWeight_13 : decode cX6_edgeWeight 13 = .ok (.ireturn, 1) := by decide +kernel
theorem dX6_edgeWeight_14 : decode cX6_edgeWeight 14 = .ok (.aload_n 0, 1) := by decide +kernel
theorem dX6_edgeWeight_15 : decode cX6_edgeWeight 15 = .ok (.getfield 10, 3) := by decide +kernel
theorem dX6_edgeWeight_18 : decode cX6_edgeWeight 18 = .ok (.iload_n 1, 1) := by decide +kernel
theorem dX6_edgeWeight_19 : decode cX6_edgeWeight 19 = .ok (.iload_n 2, 1) := by decide +kernel
theorem dX6_edgeWeight_20 : decode cX6_edgeWeight 20 = .ok (.invokevirtual 105, 3) := by decide +kernel
theorem dX6_edgeWeight_23 : decode cX6_edgeWeight 23 = .ok (.ifCond .eq 15, 3) := by decide +kernel
theorem dX6_edgeWeight_26 : decode cX6_edgeWeight 26 = .ok (.aload_n 0, 1) := by decide +kernel
theorem dX6_edgeWeight_27 : decode cX6_edgeWeight 27 = .ok (.getfield 10, 3) := by decide +kernel
theorem dX6_edgeWeight_30 : decode cX6_edgeWeight 30 = .ok (.iload_n 1, 1) := by decide +kernel
theorem dX6_edgeWeight_31 : decode cX6_edgeWeight 31 = .ok (.iload_n 2, 1) := by decide +kernel
theorem dX6_edgeWeight_32 : decode cX6_edgeWeight 32 = .ok (.invokevirtual 108, 3) := by decide +kernel
theorem dX6_edgeWeight_35 : decode cX6_edgeWeight 35 = .ok (.goto 5, 3) := by decide +kernel
theorem dX6_edgeWeight_38 : decode cX6_edgeWeight 38 = .ok (.bipush (-9), 2) := by decide +kernel
theorem dX6_edgeWeight_40 : decode cX6_edgeWeight 40 = .ok (.ireturn, 1) := by decide +kernel
theorem dX6_treeOf_0 : decode cX6_treeOf 0 = .ok (.aload_n 0, 1) := by decide +kernel
theorem dX6_treeOf_1 : decode cX6_treeOf 1 = .ok (.getfield 10, 3) := by decide +kernel
theorem dX6_treeOf_4 : decode cX6_treeOf 4 = .ok (.iload_n 1, 1) := by decide +kernel
theorem dX6_treeOf_5 : decode cX6_treeOf 5 = .ok (.invokevirtual 94, 3) := by decide +kernel
theorem dX6_treeOf_8 : decode cX6_treeOf 8 = .ok (.ifCond .ne 5, 3) := by decide +kernel
theorem dX6_treeOf_11 : decode cX6_treeOf 11 = .ok (.iconst (-1), 1) := by decide +kernel
theorem dX6_treeOf_12 : decode cX6_treeOf 12 = .ok (.ireturn, 1) := by decide +kernel
theorem dX6_treeOf_13 : decode cX6_treeOf 13 = .ok (.aload_n 0, 1) := by decide +kernel
theorem dX6_treeOf_14 : decode cX6_treeOf 14 = .ok (.getfield 21, 3) := by decide +kernel
theorem dX6_treeOf_17 : decode cX6_treeOf 17 = .ok (.invokevirtual 112, 3) := by decide +kernel
theorem dX6_treeOf_20 : decode cX6_treeOf 20 = .ok (.aload_n 0, 1) := by decide +kernel
theorem dX6_treeOf_21 : decode cX6_treeOf 21 = .ok (.getfield 21, 3) := by decide +kernel
theorem dX6_treeOf_24 : decode cX6_treeOf 24 = .ok (.iload_n 1, 1) := by decide +kernel
theorem dX6_treeOf_25 : decode cX6_treeOf 25 = .ok (.invokevirtual 115, 3) := by decide +kernel
theorem dX6_treeOf_28 : decode cX6_treeOf 28 = .ok (.ireturn, 1) := by decide +kernel
theorem dX6_link_0 : decode cX6_link 0 = .ok (.aload_n 0, 1) := by decide +kernel
theorem dX6_link_1 : decode cX6_link 1 = .ok (.getfield 10, 3) := by decide +kernel
theorem dX6_link_4 : decode cX6_link 4 = .ok (.aload_n 0, 1) := by decide +kernel
theorem dX6_link_5 : decode cX6_link 5 = .ok (.getfield 21, 3) := by decide +kernel
theorem dX6_link_8 : decode cX6_link 8 = .ok (.iload_n 1, 1) := by decide +kernel
theorem dX6_link_9 : decode cX6_link 9 = .ok (.iload_n 2, 1) := by decide +kernel
theorem dX6_link_10 : decode cX6_link 10 = .ok (.iload_n 3, 1) := by decide +kernel
theorem dX6_link_11 : decode cX6_link 11 = .ok (.invokestatic 118, 3) := by decide +kernel
theorem dX6_link_14 : decode cX6_link 14 = .ok (.istore 4, 2) := by decide +kernel
theorem dX6_link_16 : decode cX6_link 16 = .ok (.iload 4, 2) := by decide +kernel
theorem dX6_link_18 : decode cX6_link 18 = .ok (.ifCond .eq 6, 3) := by decide +kernel
theorem dX6_link_21 : decode cX6_link 21 = .ok (.iload 4, 2) := by decide +kernel
theorem dX6_link_23 : decode cX6_link 23 = .ok (.ireturn, 1) := by decide +kernel
theorem dX6_link_24 : decode cX6_link 24 = .ok (.aload_n 0, 1) := by decide +kernel
theorem dX6_link_25 : decode cX6_link 25 = .ok (.getfield 48, 3) := by decide +kernel
theorem dX6_link_28 : decode cX6_link 28 = .ok (.aload_n 0, 1) := by decide +kernel
theorem dX6_link_29 : decode cX6_link 29 = .ok (.getfield 10, 3) := by decide +kernel
theorem dX6_link_32 : decode cX6_link 32 = .ok (.invokevirtual 122, 3) := by decide +kernel
theorem dX6_link_35 : decode cX6_link 35 = .ok (.aload_n 0, 1) := by decide +kernel
theorem dX6_link_36 : decode cX6_link 36 = .ok (.getfield 10, 3) := by decide +kernel
theorem dX6_link_39 : decode cX6_link 39 = .ok (.iload_n 1, 1) := by decide +kernel
theorem dX6_link_40 : decode cX6_link 40 = .ok (.iload_n 2, 1) := by decide +kernel
theorem dX6_link_41 : decode cX6_link 41 = .ok (.iload_n 3, 1) := by decide +kernel
theorem dX6_link_42 : decode cX6_link 42 = .ok (.invokevirtual 125, 3) := by decide +kernel
theorem dX6_link_45 : decode cX6_link 45 = .ok (.aload_n 0, 1) := by decide +kernel
theorem dX6_link_46 : decode cX6_link 46 = .ok (.getfield 10, 3) := by decide +kernel
theorem dX6_link_49 : decode cX6_link 49 = .ok (.invokevirtual 91, 3) := by decide +kernel
theorem dX6_link_52 : decode cX6_link 52 = .ok (.ireturn, 1) := by decide +kernel
theorem dX6_cut_0 : decode cX6_cut 0 = .ok (.aload_n 0, 1) := by decide +kernel
theorem dX6_cut_1 : decode cX6_cut 1 = .ok (.getfield 10, 3) := by decide +kernel
theorem dX6_cut_4 : decode cX6_cut 4 = .ok (.iload_n 1, 1) := by decide +kernel
theorem dX6_cut_5 : decode cX6_cut 5 = .ok (.iload_n 2, 1) := by decide +kernel
theorem dX6_cut_6 : decode cX6_cut 6 = .ok (.invokestatic 129, 3) := by decide +kernel
theorem dX6_cut_9 : decode cX6_cut 9 = .ok (.istore_n 3, 1) := by decide +kernel
theorem dX6_cut_10 : decode cX6_cut 10 = .ok (.iload_n 3, 1) := by decide +kernel
theorem dX6_cut_11 : decode cX6_cut 11 = .ok (.ifCond .eq 5, 3) := by decide +kernel
theorem dX6_cut_14 : decode cX6_cut 14 = .ok (.iload_n 3, 1) := by decide +kernel
theorem dX6_cut_15 : decode cX6_cut 15 = .ok (.ireturn, 1) := by decide +kernel
theorem dX6_cut_16 : decode cX6_cut 16 = .ok (.aload_n 0, 1) := by decide +kernel
theorem dX6_cut_17 : decode cX6_cut 17 = .ok (.getfield 10, 3) := by decide +kernel
theorem dX6_cut_20 : decode cX6_cut 20 = .ok (.iload_n 1, 1) := by decide +kernel
theorem dX6_cut_21 : decode cX6_cut 21 = .ok (.iload_n 2, 1) := by decide +kernel
theorem dX6_cut_22 : decode cX6_cut 22 = .ok (.invokevirtual 108, 3) := by decide +kernel
theorem dX6_cut_25 : decode cX6_cut 25 = .ok (.istore 4, 2) := by decide +kernel
theorem dX6_cut_27 : decode cX6_cut 27 = .ok (.aload_n 0, 1) := by decide +kernel
theorem dX6_cut_28 : decode cX6_cut 28 = .ok (.getfield 48, 3) := by decide +kernel
theorem dX6_cut_31 : decode cX6_cut 31 = .ok (.aload_n 0, 1) := by decide +kernel
theorem dX6_cut_32 : decode cX6_cut 32 = .ok (.getfield 10, 3) := by decide +kernel
theorem dX6_cut_35 : decode cX6_cut 35 = .ok (.invokevirtual 122, 3) := by decide +kernel
theorem dX6_cut_38 : decode cX6_cut 38 = .ok (.aload_n 0, 1) := by decide +kernel
theorem dX6_cut_39 : decode cX6_cut 39 = .ok (.getfield 10, 3) := by decide +kernel
theorem dX6_cut_42 : decode cX6_cut 42 = .ok (.iload_n 1, 1) := by decide +kernel
theorem dX6_cut_43 : decode cX6_cut 43 = .ok (.iload_n 2, 1) := by decide +kernel
theorem dX6_cut_44 : decode cX6_cut 44 = .ok (.iconst 0, 1) := by decide +kernel
theorem dX6_cut_45 : decode cX6_cut 45 = .ok (.invokevirtual 125, 3) := by decide +kernel
theorem dX6_cut_48 : decode cX6_cut 48 = .ok (.iload 4, 2) := by decide +kernel
theorem dX6_cut_50 : decode cX6_cut 50 = .ok (.ireturn, 1) := by decide +kernel
theorem dX6_setEdgeWeight_0 : decode cX6_setEdgeWeight 0 = .ok (.aload_n 0, 1) := by decide +kernel
theorem dX6_setEdgeWeight_1 : decode cX6_setEdgeWeight 1 = .ok (.getfield 10, 3) := by decide +kernel
theorem dX6_setEdgeWeight_4 : decode cX6_setEdgeWeight 4 = .ok (.iload_n 1, 1) := by decide +kernel
theorem dX6_setEdgeWeight_5 : decode cX6_setEdgeWeight 5 = .ok (.iload_n 2, 1) := by decide +kernel
theorem dX6_setEdgeWeight_6 : decode cX6_setEdgeWeight 6 = .ok (.invokevirtual 101, 3) := by decide +kernel
theorem dX6_setEdgeWeight_9 : decode cX6_setEdgeWeight 9 = .ok (.ifCond .ne 5, 3) := by decide +kernel
theorem dX6_setEdgeWeight_12 : decode cX6_setEdgeWeight 12 = .ok (.iconst (-1), 1) := by decide +kernel
theorem dX6_setEdgeWeight_13 : decode cX6_setEdgeWeight 13 = .ok (.ireturn, 1) := by decide +kernel
theorem dX6_setEdgeWeight_14 : decode cX6_setEdgeWeight 14 = .ok (.iload_n 3, 1) := by decide +kernel
theorem dX6_setEdgeWeight_15 : decode cX6_setEdgeWeight 15 = .ok (.iconst 1, 1) := by decide +kernel
theorem dX6_setEdgeWeight_16 : decode cX6_setEdgeWeight 16 = .ok (.if_icmp .lt 9, 3) := by decide +kernel
theorem dX6_setEdgeWeight_19 : decode cX6_setEdgeWeight 19 = .ok (.iload_n 3, 1) := by decide +kernel
theorem dX6_setEdgeWeight_20 : decode cX6_setEdgeWeight 20 = .ok (.bipush 99, 2) := by decide +kernel
theorem dX6_setEdgeWeight_22 : decode cX6_setEdgeWeight 22 = .ok (.if_icmp .le 6, 3) := by decide +kernel
theorem dX6_setEdgeWeight_25 : decode cX6_setEdgeWeight 25 = .ok (.bipush (-2), 2) := by decide +kernel
theorem dX6_setEdgeWeight_27 : decode cX6_setEdgeWeight 27 = .ok (.ireturn, 1) := by decide +kernel
theorem dX6_setEdgeWeight_28 : decode cX6_setEdgeWeight 28 = .ok (.aload_n 0, 1) := by decide +kernel
theorem dX6_setEdgeWeight_29 : decode cX6_setEdgeWeight 29 = .ok (.getfield 10, 3) := by decide +kernel
theorem dX6_setEdgeWeight_32 : decode cX6_setEdgeWeight 32 = .ok (.iload_n 1, 1) := by decide +kernel
theorem dX6_setEdgeWeight_33 : decode cX6_setEdgeWeight 33 = .ok (.iload_n 2, 1) := by decide +kernel
theorem dX6_setEdgeWeight_34 : decode cX6_setEdgeWeight 34 = .ok (.invokevirtual 105, 3) := by decide +kernel
theorem dX6_setEdgeWeight_37 : decode cX6_setEdgeWeight 37 = .ok (.ifCond .ne 6, 3) := by decide +kernel
theorem dX6_setEdgeWeight_40 : decode cX6_setEdgeWeight 40 = .ok (.bipush (-3), 2) := by decide +kernel
theorem dX6_setEdgeWeight_42 : decode cX6_setEdgeWeight 42 = .ok (.ireturn, 1) := by decide +kernel
theorem dX6_setEdgeWeight_43 : decode cX6_setEdgeWeight 43 = .ok (.aload_n 0, 1) := by decide +kernel
theorem dX6_setEdgeWeight_44 : decode cX6_setEdgeWeight 44 = .ok (.getfield 10, 3) := by decide +kernel
theorem dX6_setEdgeWeight_47 : decode cX6_setEdgeWeight 47 = .ok (.iload_n 1, 1) := by decide +kernel
theorem dX6_setEdgeWeight_48 : decode cX6_setEdgeWeight 48 = .ok (.iload_n 2, 1) := by decide +kernel
theorem dX6_setEdgeWeight_49 : decode cX6_setEdgeWeight 49 = .ok (.invokevirtual 108, 3) := by decide +kernel
theorem dX6_setEdgeWeight_52 : decode cX6_setEdgeWeight 52 = .ok (.istore 4, 2) := by decide +kernel
theorem dX6_setEdgeWeight_54 : decode cX6_setEdgeWeight 54 = .ok (.aload_n 0, 1) := by decide +kernel
theorem dX6_setEdgeWeight_55 : decode cX6_setEdgeWeight 55 = .ok (.getfield 48, 3) := by decide +kernel
theorem dX6_setEdgeWeight_58 : decode cX6_setEdgeWeight 58 = .ok (.aload_n 0, 1) := by decide +kernel
theorem dX6_setEdgeWeight_59 : decode cX6_setEdgeWeight 59 = .ok (.getfield 10, 3) := by decide +kernel
theorem dX6_setEdgeWeight_62 : decode cX6_setEdgeWeight 62 = .ok (.invokevirtual 122, 3) := by decide +kernel
theorem dX6_setEdgeWeight_65 : decode cX6_setEdgeWeight 65 = .ok (.aload_n 0, 1) := by decide +kernel
theorem dX6_setEdgeWeight_66 : decode cX6_setEdgeWeight 66 = .ok (.getfield 10, 3) := by decide +kernel
theorem dX6_setEdgeWeight_69 : decode cX6_setEdgeWeight 69 = .ok (.iload_n 1, 1) := by decide +kernel
theorem dX6_setEdgeWeight_70 : decode cX6_setEdgeWeight 70 = .ok (.iload_n 2, 1) := by decide +kernel
theorem dX6_setEdgeWeight_71 : decode cX6_setEdgeWeight 71 = .ok (.iload_n 3, 1) := by decide +kernel
theorem dX6_setEdgeWeight_72 : decode cX6_setEdgeWeight 72 = .ok (.invokevirtual 125, 3) := by decide +kernel
theorem dX6_setEdgeWeight_75 : decode cX6_setEdgeWeight 75 = .ok (.iload 4, 2) := by decide +kernel
theorem dX6_setEdgeWeight_77 : decode cX6_setEdgeWeight 77 = .ok (.ireturn, 1) := by decide +kernel
theorem dX6_setVertexWeight_0 : decode cX6_setVertexWeight 0 = .ok (.aload_n 0, 1) := by decide +kernel
theorem dX6_setVertexWeight_1 : decode cX6_setVertexWeight 1 = .ok (.getfield 10, 3) := by decide +kernel
theorem dX6_setVertexWeight_4 : decode cX6_setVertexWeight 4 = .ok (.iload_n 1, 1) := by decide +kernel
theorem dX6_setVertexWeight_5 : decode cX6_setVertexWeight 5 = .ok (.invokevirtual 94, 3) := by decide +kernel
theorem dX6_setVertexWeight_8 : decode cX6_setVertexWeight 8 = .ok (.ifCond .ne 5, 3) := by decide +kernel
theorem dX6_setVertexWeight_11 : decode cX6_setVertexWeight 11 = .ok (.iconst (-1), 1) := by decide +kernel
theorem dX6_setVertexWeight_12 : decode cX6_setVertexWeight 12 = .ok (.ireturn, 1) := by decide +kernel
theorem dX6_setVertexWeight_13 : decode cX6_setVertexWeight 13 = .ok (.iload_n 2, 1) := by decide +kernel
theorem dX6_setVertexWeight_14 : decode cX6_setVertexWeight 14 = .ok (.ifCond .lt 9, 3) := by decide +kernel
theorem dX6_setVertexWeight_17 : decode cX6_setVertexWeight 17 = .ok (.iload_n 2, 1) := by decide +kernel
theorem dX6_setVertexWeight_18 : decode cX6_setVertexWeight 18 = .ok (.bipush 99, 2) := by decide +kernel
theorem dX6_setVertexWeight_20 : decode cX6_setVertexWeight 20 = .ok (.if_icmp .le 6, 3) := by decide +kernel
theorem dX6_setVertexWeight_23 : decode cX6_setVertexWeight 23 = .ok (.bipush (-2), 2) := by decide +kernel
theorem dX6_setVertexWeight_25 : decode cX6_setVertexWeight 25 = .ok (.ireturn, 1) := by decide +kernel
theorem dX6_setVertexWeight_26 : decode cX6_setVertexWeight 26 = .ok (.aload_n 0, 1) := by decide +kernel
theorem dX6_setVertexWeight_27 : decode cX6_setVertexWeight 27 = .ok (.getfield 10, 3) := by decide +kernel
theorem dX6_setVertexWeight_30 : decode cX6_setVertexWeight 30 = .ok (.iload_n 1, 1) := by decide +kernel
theorem dX6_setVertexWeight_31 : decode cX6_setVertexWeight 31 = .ok (.invokevirtual 97, 3) := by decide +kernel
theorem dX6_setVertexWeight_34 : decode cX6_setVertexWeight 34 = .ok (.istore_n 3, 1) := by decide +kernel
theorem dX6_setVertexWeight_35 : decode cX6_setVertexWeight 35 = .ok (.aload_n 0, 1) := by decide +kernel
theorem dX6_setVertexWeight_36 : decode cX6_setVertexWeight 36 = .ok (.getfield 48, 3) := by decide +kernel
theorem dX6_setVertexWeight_39 : decode cX6_setVertexWeight 39 = .ok (.aload_n 0, 1) := by decide +kernel
theorem dX6_setVertexWeight_40 : decode cX6_setVertexWeight 40 = .ok (.getfield 10, 3) := by decide +kernel
theorem dX6_setVertexWeight_43 : decode cX6_setVertexWeight 43 = .ok (.invokevirtual 122, 3) := by decide +kernel
theorem dX6_setVertexWeight_46 : decode cX6_setVertexWeight 46 = .ok (.aload_n 0, 1) := by decide +kernel
theorem dX6_setVertexWeight_47 : decode cX6_setVertexWeight 47 = .ok (.getfield 10, 3) := by decide +kernel
theorem dX6_setVertexWeight_50 : decode cX6_setVertexWeight 50 = .ok (.iload_n 1, 1) := by decide +kernel
theorem dX6_setVertexWeight_51 : decode cX6_setVertexWeight 51 = .ok (.iload_n 2, 1) := by decide +kernel
theorem dX6_setVertexWeight_52 : decode cX6_setVertexWeight 52 = .ok (.invokevirtual 133, 3) := by decide +kernel
theorem dX6_setVertexWeight_55 : decode cX6_setVertexWeight 55 = .ok (.iload_n 3, 1) := by decide +kernel
theorem dX6_setVertexWeight_56 : decode cX6_setVertexWeight 56 = .ok (.ireturn, 1) := by decide +kernel
theorem dX6_undo_0 : decode cX6_undo 0 = .ok (.aload_n 0, 1) := by decide +kernel
theorem dX6_undo_1 : decode cX6_undo 1 = .ok (.getfield 48, 3) := by decide +kernel
theorem dX6_undo_4 : decode cX6_undo 4 = .ok (.aload_n 0, 1) := by decide +kernel
theorem dX6_undo_5 : decode cX6_undo 5 = .ok (.getfield 10, 3) := by decide +kernel
theorem dX6_undo_8 : decode cX6_undo 8 = .ok (.invokevirtual 137, 3) := by decide +kernel
theorem dX6_undo_11 : decode cX6_undo 11 = .ok (.ifCond .eq 13, 3) := by decide +kernel
theorem dX6_undo_14 : decode cX6_undo 14 = .ok (.aload_n 0, 1) := by decide +kernel
theorem dX6_undo_15 : decode cX6_undo 15 = .ok (.getfield 48, 3) := by decide +kernel
theorem dX6_undo_18 : decode cX6_undo 18 = .ok (.invokevirtual 141, 3) := by decide +kernel
theorem dX6_undo_21 : decode cX6_undo 21 = .ok (.goto 5, 3) := by decide +kernel
theorem dX6_undo_24 : decode cX6_undo 24 = .ok (.bipush (-3), 2) := by decide +kernel
theorem dX6_undo_26 : decode cX6_undo 26 = .ok (.ireturn, 1) := by decide +kernel
theorem dX6_linkError_0 : decode cX6_linkError 0 = .ok (.aload_n 0, 1) := by decide +kernel
theorem dX6_linkError_1 : decode cX6_linkError 1 = .ok (.iload_n 2, 1) := by decide +kernel
theorem dX6_linkError_2 : decode cX6_linkError 2 = .ok (.iload_n 3, 1) := by decide +kernel
theorem dX6_linkError_3 : decode cX6_linkError 3 = .ok (.invokevirtual 101, 3) := by decide +kernel
theorem dX6_linkError_6 : decode cX6_linkError 6 = .ok (.ifCond .ne 5, 3) := by decide +kernel
theorem dX6_linkError_9 : decode cX6_linkError 9 = .ok (.iconst (-1), 1) := by decide +kernel
theorem dX6_linkError_10 : decode cX6_linkError 10 = .ok (.ireturn, 1) := by decide +kernel
theorem dX6_linkError_11 : decode cX6_linkError 11 = .ok (.iload 4, 2) := by decide +kernel
theorem dX6_linkError_13 : decode cX6_linkError 13 = .ok (.iconst 1, 1) := by decide +kernel
theorem dX6_linkError_14 : decode cX6_linkError 14 = .ok (.if_icmp .lt 10, 3) := by decide +kernel
theorem dX6_linkError_17 : decode cX6_linkError 17 = .ok (.iload 4, 2) := by decide +kernel
theorem dX6_linkError_19 : decode cX6_linkError 19 = .ok (.bipush 99, 2) := by decide +kernel
theorem dX6_linkError_21 : decode cX6_linkError 21 = .ok (.if_icmp .le 6, 3) := by decide +kernel
theorem dX6_linkError_24 : decode cX6_linkError 24 = .ok (.bipush (-2), 2) := by decide +kernel
theorem dX6_linkError_26 : decode cX6_linkError 26 = .ok (.ireturn, 1) := by decide +kernel
theorem dX6_linkError_27 : decode cX6_linkError 27 = .ok (.aload_n 1, 1) := by decide +kernel
theorem dX6_linkError_28 : decode cX6_linkError 28 = .ok (.invokevirtual 112, 3) := by decide +kernel
theorem dX6_linkError_31 : decode cX6_linkError 31 = .ok (.aload_n 1, 1) := by decide +kernel
theorem dX6_linkError_32 : decode cX6_linkError 32 = .ok (.iload_n 2, 1) := by decide +kernel
theorem dX6_linkError_33 : decode cX6_linkError 33 = .ok (.iload_n 3, 1) := by decide +kernel
theorem dX6_linkError_34 : decode cX6_linkError 34 = .ok (.invokevirtual 142, 3) := by decide +kernel
theorem dX6_linkError_37 : decode cX6_linkError 37 = .ok (.ifCond .eq 8, 3) := by decide +kernel
theorem dX6_linkError_40 : decode cX6_linkError 40 = .ok (.bipush (-3), 2) := by decide +kernel
theorem dX6_linkError_42 : decode cX6_linkError 42 = .ok (.goto 4, 3) := by decide +kernel
theorem dX6_linkError_45 : decode cX6_linkError 45 = .ok (.iconst 0, 1) := by decide +kernel
theorem dX6_linkError_46 : decode cX6_linkError 46 = .ok (.ireturn, 1) := by decide +kernel
theorem dX6_cutError_0 : decode cX6_cutError 0 = .ok (.aload_n 0, 1) := by decide +kernel
theorem dX6_cutError_1 : decode cX6_cutError 1 = .ok (.iload_n 1, 1) := by decide +kernel
theorem dX6_cutError_2 : decode cX6_cutError 2 = .ok (.iload_n 2, 1) := by decide +kernel
theorem dX6_cutError_3 : decode cX6_cutError 3 = .ok (.invokevirtual 101, 3) := by decide +kernel
theorem dX6_cutError_6 : decode cX6_cutError 6 = .ok (.ifCond .ne 5, 3) := by decide +kernel
theorem dX6_cutError_9 : decode cX6_cutError 9 = .ok (.iconst (-1), 1) := by decide +kernel
theorem dX6_cutError_10 : decode cX6_cutError 10 = .ok (.ireturn, 1) := by decide +kernel
theorem dX6_cutError_11 : decode cX6_cutError 11 = .ok (.aload_n 0, 1) := by decide +kernel
theorem dX6_cutError_12 : decode cX6_cutError 12 = .ok (.iload_n 1, 1) := by decide +kernel
theorem dX6_cutError_13 : decode cX6_cutError 13 = .ok (.iload_n 2, 1) := by decide +kernel
theorem dX6_cutError_14 : decode cX6_cutError 14 = .ok (.invokevirtual 105, 3) := by decide +kernel
theorem dX6_cutError_17 : decode cX6_cutError 17 = .ok (.ifCond .eq 7, 3) := by decide +kernel
theorem dX6_cutError_20 : decode cX6_cutError 20 = .ok (.iconst 0, 1) := by decide +kernel
theorem dX6_cutError_21 : decode cX6_cutError 21 = .ok (.goto 5, 3) := by decide +kernel
theorem dX6_cutError_24 : decode cX6_cutError 24 = .ok (.bipush (-3), 2) := by decide +kernel
theorem dX6_cutError_26 : decode cX6_cutError 26 = .ok (.ireturn, 1) := by decide +kernel
theorem dX6_distance_0 : decode cX6_distance 0 = .ok (.aload_n 0, 1) := by decide +kernel
theorem dX6_distance_1 : decode cX6_distance 1 = .ok (.getfield 10, 3) := by decide +kernel
theorem dX6_distance_4 : decode cX6_distance 4 = .ok (.iload_n 1, 1) := by decide +kernel
theorem dX6_distance_5 : decode cX6_distance 5 = .ok (.iload_n 2, 1) := by decide +kernel
theorem dX6_distance_6 : decode cX6_distance 6 = .ok (.invokevirtual 101, 3) := by decide +kernel
theorem dX6_distance_9 : decode cX6_distance 9 = .ok (.ifCond .ne 5, 3) := by decide +kernel
theorem dX6_distance_12 : decode cX6_distance 12 = .ok (.iconst (-1), 1) := by decide +kernel
theorem dX6_distance_13 : decode cX6_distance 13 = .ok (.ireturn, 1) := by decide +kernel
theorem dX6_distance_14 : decode cX6_distance 14 = .ok (.aload_n 0, 1) := by decide +kernel
theorem dX6_distance_15 : decode cX6_distance 15 = .ok (.getfield 21, 3) := by decide +kernel
theorem dX6_distance_18 : decode cX6_distance 18 = .ok (.invokevirtual 112, 3) := by decide +kernel
theorem dX6_distance_21 : decode cX6_distance 21 = .ok (.aload_n 0, 1) := by decide +kernel
theorem dX6_distance_22 : decode cX6_distance 22 = .ok (.getfield 21, 3) := by decide +kernel
theorem dX6_distance_25 : decode cX6_distance 25 = .ok (.iload_n 1, 1) := by decide +kernel
theorem dX6_distance_26 : decode cX6_distance 26 = .ok (.iload_n 2, 1) := by decide +kernel
theorem dX6_distance_27 : decode cX6_distance 27 = .ok (.invokevirtual 142, 3) := by decide +kernel
theorem dX6_distance_30 : decode cX6_distance 30 = .ok (.ifCond .eq 15, 3) := by decide +kernel
theorem dX6_distance_33 : decode cX6_distance 33 = .ok (.aload_n 0, 1) := by decide +kernel
theorem dX6_distance_34 : decode cX6_distance 34 = .ok (.getfield 21, 3) := by decide +kernel
theorem dX6_distance_37 : decode cX6_distance 37 = .ok (.iload_n 1, 1) := by decide +kernel
theorem dX6_distance_38 : decode cX6_distance 38 = .ok (.iload_n 2, 1) := by decide +kernel
theorem dX6_distance_39 : decode cX6_distance 39 = .ok (.invokevirtual 145, 3) := by decide +kernel
theorem dX6_distance_42 : decode cX6_distance 42 = .ok (.goto 5, 3) := by decide +kernel
theorem dX6_distance_45 : decode cX6_distance 45 = .ok (.bipush (-9), 2) := by decide +kernel
theorem dX6_distance_47 : decode cX6_distance 47 = .ok (.ireturn, 1) := by decide +kernel
theorem dX6_pathVertex_0 : decode cX6_pathVertex 0 = .ok (.aload_n 0, 1) := by decide +kernel
theorem dX6_pathVertex_1 : decode cX6_pathVertex 1 = .ok (.getfield 10, 3) := by decide +kernel
theorem dX6_pathVertex_4 : decode cX6_pathVertex 4 = .ok (.iload_n 1, 1) := by decide +kernel
theorem dX6_pathVertex_5 : decode cX6_pathVertex 5 = .ok (.iload_n 2, 1) := by decide +kernel
theorem dX6_pathVertex_6 : decode cX6_pathVertex 6 = .ok (.invokevirtual 101, 3) := by decide +kernel
theorem dX6_pathVertex_9 : decode cX6_pathVertex 9 = .ok (.ifCond .ne 5, 3) := by decide +kernel
theorem dX6_pathVertex_12 : decode cX6_pathVertex 12 = .ok (.iconst (-1), 1) := by decide +kernel
theorem dX6_pathVertex_13 : decode cX6_pathVertex 13 = .ok (.ireturn, 1) := by decide +kernel
theorem dX6_pathVertex_14 : decode cX6_pathVertex 14 = .ok (.iload_n 3, 1) := by decide +kernel
theorem dX6_pathVertex_15 : decode cX6_pathVertex 15 = .ok (.ifCond .ge 6, 3) := by decide +kernel
theorem dX6_pathVertex_18 : decode cX6_pathVertex 18 = .ok (.bipush (-2), 2) := by decide +kernel
theorem dX6_pathVertex_20 : decode cX6_pathVertex 20 = .ok (.ireturn, 1) := by decide +kernel
theorem dX6_pathVertex_21 : decode cX6_pathVertex 21 = .ok (.aload_n 0, 1) := by decide +kernel
theorem dX6_pathVertex_22 : decode cX6_pathVertex 22 = .ok (.getfield 21, 3) := by decide +kernel
theorem dX6_pathVertex_25 : decode cX6_pathVertex 25 = .ok (.invokevirtual 112, 3) := by decide +kernel
theorem dX6_pathVertex_28 : decode cX6_pathVertex 28 = .ok (.aload_n 0, 1) := by decide +kernel
theorem dX6_pathVertex_29 : decode cX6_pathVertex 29 = .ok (.getfield 21, 3) := by decide +kernel
theorem dX6_pathVertex_32 : decode cX6_pathVertex 32 = .ok (.iload_n 1, 1) := by decide +kernel
theorem dX6_pathVertex_33 : decode cX6_pathVertex 33 = .ok (.iload_n 2, 1) := by decide +kernel
theorem dX6_pathVertex_34 : decode cX6_pathVertex 34 = .ok (.iload_n 3, 1) := by decide +kernel
theorem dX6_pathVertex_35 : decode cX6_pathVertex 35 = .ok (.invokevirtual 148, 3) := by decide +kernel
theorem dX6_pathVertex_38 : decode cX6_pathVertex 38 = .ok (.ireturn, 1) := by decide +kernel
theorem dX6_eccentricity_0 : decode cX6_eccentricity 0 = .ok (.aload_n 0, 1) := by decide +kernel
theorem dX6_eccentricity_1 : decode cX6_eccentricity 1 = .ok (.getfield 10, 3) := by decide +kernel
theorem dX6_eccentricity_4 : decode cX6_eccentricity 4 = .ok (.iload_n 1, 1) := by decide +kernel
theorem dX6_eccentricity_5 : decode cX6_eccentricity 5 = .ok (.invokevirtual 94, 3) := by decide +kernel
theorem dX6_eccentricity_8 : decode cX6_eccentricity 8 = .ok (.ifCond .ne 5, 3) := by decide +kernel
theorem dX6_eccentricity_11 : decode cX6_eccentricity 11 = .ok (.iconst (-1), 1) := by decide +kernel
theorem dX6_eccentricity_12 : decode cX6_eccentricity 12 = .ok (.ireturn, 1) := by decide +kernel
theorem dX6_eccentricity_13 : decode cX6_eccentricity 13 = .ok (.aload_n 0, 1) := by decide +kernel
theorem dX6_eccentricity_14 : decode cX6_eccentricity 14 = .ok (.getfield 21, 3) := by decide +kernel
theorem dX6_eccentricity_17 : decode cX6_eccentricity 17 = .ok (.invokevirtual 112, 3) := by decide +kernel
theorem dX6_eccentricity_20 : decode cX6_eccentricity 20 = .ok (.aload_n 0, 1) := by decide +kernel
theorem dX6_eccentricity_21 : decode cX6_eccentricity 21 = .ok (.getfield 21, 3) := by decide +kernel
theorem dX6_eccentricity_24 : decode cX6_eccentricity 24 = .ok (.iload_n 1, 1) := by decide +kernel
theorem dX6_eccentricity_25 : decode cX6_eccentricity 25 = .ok (.invokevirtual 152, 3) := by decide +kernel
theorem dX6_eccentricity_28 : decode cX6_eccentricity 28 = .ok (.ireturn, 1) := by decide +kernel
theorem dX6_diameter_0 : decode cX6_diameter 0 = .ok (.aload_n 0, 1) := by decide +kernel
theorem dX6_diameter_1 : decode cX6_diameter 1 = .ok (.getfield 10, 3) := by decide +kernel
theorem dX6_diameter_4 : decode cX6_diameter 4 = .ok (.iload_n 1, 1) := by decide +kernel
theorem dX6_diameter_5 : decode cX6_diameter 5 = .ok (.invokevirtual 94, 3) := by decide +kernel
theorem dX6_diameter_8 : decode cX6_diameter 8 = .ok (.ifCond .ne 5, 3) := by decide +kernel
theorem dX6_diameter_11 : decode cX6_diameter 11 = .ok (.iconst (-1), 1) := by decide +kernel
theorem dX6_diameter_12 : decode cX6_diameter 12 = .ok (.ireturn, 1) := by decide +kernel
theorem dX6_diameter_13 : decode cX6_diameter 13 = .ok (.aload_n 0, 1) := by decide +kernel
theorem dX6_diameter_14 : decode cX6_diameter 14 = .ok (.getfield 21, 3) := by decide +kernel
theorem dX6_diameter_17 : decode cX6_diameter 17 = .ok (.invokevirtual 112, 3) := by decide +kernel
theorem dX6_diameter_20 : decode cX6_diameter 20 = .ok (.aload_n 0, 1) := by decide +kernel
theorem dX6_diameter_21 : decode cX6_diameter 21 = .ok (.getfield 21, 3) := by decide +kernel
theorem dX6_diameter_24 : decode cX6_diameter 24 = .ok (.iload_n 1, 1) := by decide +kernel
theorem dX6_diameter_25 : decode cX6_diameter 25 = .ok (.invokevirtual 155, 3) := by decide +kernel
theorem dX6_diameter_28 : decode cX6_diameter 28 = .ok (.ireturn, 1) := by decide +kernel
theorem dX6_diameterEnd_0 : decode cX6_diameterEnd 0 = .ok (.aload_n 0, 1) := by decide +kernel
theorem dX6_diameterEnd_1 : decode cX6_diameterEnd 1 = .ok (.getfield 10, 3) := by decide +kernel
theorem dX6_diameterEnd_4 : decode cX6_diameterEnd 4 = .ok (.iload_n 1, 1) := by decide +kernel
theorem dX6_diameterEnd_5 : decode cX6_diameterEnd 5 = .ok (.invokevirtual 94, 3) := by decide +kernel
theorem dX6_diameterEnd_8 : decode cX6_diameterEnd 8 = .ok (.ifCond .ne 5, 3) := by decide +kernel
theorem dX6_diameterEnd_11 : decode cX6_diameterEnd 11 = .ok (.iconst (-1), 1) := by decide +kernel
theorem dX6_diameterEnd_12 : decode cX6_diameterEnd 12 = .ok (.ireturn, 1) := by decide +kernel
theorem dX6_diameterEnd_13 : decode cX6_diameterEnd 13 = .ok (.iload_n 2, 1) := by decide +kernel
theorem dX6_diameterEnd_14 : decode cX6_diameterEnd 14 = .ok (.ifCond .eq 11, 3) := by decide +kernel
theorem dX6_diameterEnd_17 : decode cX6_diameterEnd 17 = .ok (.iload_n 2, 1) := by decide +kernel
theorem dX6_diameterEnd_18 : decode cX6_diameterEnd 18 = .ok (.iconst 1, 1) := by decide +kernel
theorem dX6_diameterEnd_19 : decode cX6_diameterEnd 19 = .ok (.if_icmp .eq 6, 3) := by decide +kernel
theorem dX6_diameterEnd_22 : decode cX6_diameterEnd 22 = .ok (.bipush (-2), 2) := by decide +kernel
theorem dX6_diameterEnd_24 : decode cX6_diameterEnd 24 = .ok (.ireturn, 1) := by decide +kernel
theorem dX6_diameterEnd_25 : decode cX6_diameterEnd 25 = .ok (.aload_n 0, 1) := by decide +kernel
theorem dX6_diameterEnd_26 : decode cX6_diameterEnd 26 = .ok (.getfield 21, 3) := by decide +kernel
theorem dX6_diameterEnd_29 : decode cX6_diameterEnd 29 = .ok (.invokevirtual 112, 3) := by decide +kernel
theorem dX6_diameterEnd_32 : decode cX6_diameterEnd 32 = .ok (.aload_n 0, 1) := by decide +kernel
theorem dX6_diameterEnd_33 : decode cX6_diameterEnd 33 = .ok (.getfield 21, 3) := by decide +kernel
theorem dX6_diameterEnd_36 : decode cX6_diameterEnd 36 = .ok (.iload_n 1, 1) := by decide +kernel
theorem dX6_diameterEnd_37 : decode cX6_diameterEnd 37 = .ok (.invokevirtual 158, 3) := by decide +kernel
theorem dX6_diameterEnd_40 : decode cX6_diameterEnd 40 = .ok (.istore_n 3, 1) := by decide +kernel
theorem dX6_diameterEnd_41 : decode cX6_diameterEnd 41 = .ok (.iload_n 2, 1) := by decide +kernel
theorem dX6_diameterEnd_42 : decode cX6_diameterEnd 42 = .ok (.ifCond .ne 7, 3) := by decide +kernel
theorem dX6_diameterEnd_45 : decode cX6_diameterEnd 45 = .ok (.iload_n 3, 1) := by decide +kernel
theorem dX6_diameterEnd_46 : decode cX6_diameterEnd 46 = .ok (.goto 11, 3) := by decide +kernel
theorem dX6_diameterEnd_49 : decode cX6_diameterEnd 49 = .ok (.aload_n 0, 1) := by decide +kernel
theorem dX6_diameterEnd_50 : decode cX6_diameterEnd 50 = .ok (.getfield 21, 3) := by decide +kernel
theorem dX6_diameterEnd_53 : decode cX6_diameterEnd 53 = .ok (.iload_n 3, 1) := by decide +kernel
theorem dX6_diameterEnd_54 : decode cX6_diameterEnd 54 = .ok (.invokevirtual 161, 3) := by decide +kernel
theorem dX6_diameterEnd_57 : decode cX6_diameterEnd 57 = .ok (.ireturn, 1) := by decide +kernel
theorem dX6_centre_0 : decode cX6_centre 0 = .ok (.aload_n 0, 1) := by decide +kernel
theorem dX6_centre_1 : decode cX6_centre 1 = .ok (.getfield 10, 3) := by decide +kernel
theorem dX6_centre_4 : decode cX6_centre 4 = .ok (.iload_n 1, 1) := by decide +kernel
theorem dX6_centre_5 : decode cX6_centre 5 = .ok (.invokevirtual 94, 3) := by decide +kernel
theorem dX6_centre_8 : decode cX6_centre 8 = .ok (.ifCond .ne 5, 3) := by decide +kernel
theorem dX6_centre_11 : decode cX6_centre 11 = .ok (.iconst (-1), 1) := by decide +kernel
theorem dX6_centre_12 : decode cX6_centre 12 = .ok (.ireturn, 1) := by decide +kernel
theorem dX6_centre_13 : decode cX6_centre 13 = .ok (.aload_n 0, 1) := by decide +kernel
theorem dX6_centre_14 : decode cX6_centre 14 = .ok (.getfield 21, 3) := by decide +kernel
theorem dX6_centre_17 : decode cX6_centre 17 = .ok (.invokevirtual 112, 3) := by decide +kernel
theorem dX6_centre_20 : decode cX6_centre 20 = .ok (.aload_n 0, 1) := by decide +kernel
theorem dX6_centre_21 : decode cX6_centre 21 = .ok (.getfield 21, 3) := by decide +kernel
theorem dX6_centre_24 : decode cX6_centre 24 = .ok (.iload_n 1, 1) := by decide +kernel
theorem dX6_centre_25 : decode cX6_centre 25 = .ok (.invokevirtual 164, 3) := by decide +kernel
theorem dX6_centre_28 : decode cX6_centre 28 = .ok (.ireturn, 1) := by decide +kernel
theorem dX6_median_0 : decode cX6_median 0 = .ok (.aload_n 0, 1) := by decide +kernel
theorem dX6_median_1 : decode cX6_median 1 = .ok (.getfield 10, 3) := by decide +kernel
theorem dX6_median_4 : decode cX6_median 4 = .ok (.iload_n 1, 1) := by decide +kernel
theorem dX6_median_5 : decode cX6_median 5 = .ok (.invokevirtual 94, 3) := by decide +kernel
theorem dX6_median_8 : decode cX6_median 8 = .ok (.ifCond .ne 5, 3) := by decide +kernel
theorem dX6_median_11 : decode cX6_median 11 = .ok (.iconst (-1), 1) := by decide +kernel
theorem dX6_median_12 : decode cX6_median 12 = .ok (.ireturn, 1) := by decide +kernel
theorem dX6_median_13 : decode cX6_median 13 = .ok (.aload_n 0, 1) := by decide +kernel
theorem dX6_median_14 : decode cX6_median 14 = .ok (.getfield 21, 3) := by decide +kernel
theorem dX6_median_17 : decode cX6_median 17 = .ok (.invokevirtual 112, 3) := by decide +kernel
theorem dX6_median_20 : decode cX6_median 20 = .ok (.aload_n 0, 1) := by decide +kernel
theorem dX6_median_21 : decode cX6_median 21 = .ok (.getfield 21, 3) := by decide +kernel
theorem dX6_median_24 : decode cX6_median 24 = .ok (.iload_n 1, 1) := by decide +kernel
theorem dX6_median_25 : decode cX6_median 25 = .ok (.invokevirtual 167, 3) := by decide +kernel
theorem dX6_median_28 : decode cX6_median 28 = .ok (.ireturn, 1) := by decide +kernel
theorem dX6_cost_0 : decode cX6_cost 0 = .ok (.aload_n 0, 1) := by decide +kernel
theorem dX6_cost_1 : decode cX6_cost 1 = .ok (.getfield 10, 3) := by decide +kernel
theorem dX6_cost_4 : decode cX6_cost 4 = .ok (.iload_n 1, 1) := by decide +kernel
theorem dX6_cost_5 : decode cX6_cost 5 = .ok (.invokevirtual 94, 3) := by decide +kernel
theorem dX6_cost_8 : decode cX6_cost 8 = .ok (.ifCond .ne 5, 3) := by decide +kernel
theorem dX6_cost_11 : decode cX6_cost 11 = .ok (.iconst (-1), 1) := by decide +kernel
theorem dX6_cost_12 : decode cX6_cost 12 = .ok (.ireturn, 1) := by decide +kernel
theorem dX6_cost_13 : decode cX6_cost 13 = .ok (.aload_n 0, 1) := by decide +kernel
theorem dX6_cost_14 : decode cX6_cost 14 = .ok (.getfield 21, 3) := by decide +kernel
theorem dX6_cost_17 : decode cX6_cost 17 = .ok (.invokevirtual 112, 3) := by decide +kernel
theorem dX6_cost_20 : decode cX6_cost 20 = .ok (.aload_n 0, 1) := by decide +kernel
theorem dX6_cost_21 : decode cX6_cost 21 = .ok (.getfield 21, 3) := by decide +kernel
theorem dX6_cost_24 : decode cX6_cost 24 = .ok (.iload_n 1, 1) := by decide +kernel
theorem dX6_cost_25 : decode cX6_cost 25 = .ok (.invokevirtual 170, 3) := by decide +kernel
theorem dX6_cost_28 : decode cX6_cost 28 = .ok (.ireturn, 1) := by decide +kernel
theorem dX6_meeting_0 : decode cX6_meeting 0 = .ok (.aload_n 0, 1) := by decide +kernel
theorem dX6_meeting_1 : decode cX6_meeting 1 = .ok (.getfield 10, 3) := by decide +kernel
theorem dX6_meeting_4 : decode cX6_meeting 4 = .ok (.iload_n 1, 1) := by decide +kernel
theorem dX6_meeting_5 : decode cX6_meeting 5 = .ok (.iload_n 2, 1) := by decide +kernel
theorem dX6_meeting_6 : decode cX6_meeting 6 = .ok (.invokevirtual 101, 3) := by decide +kernel
theorem dX6_meeting_9 : decode cX6_meeting 9 = .ok (.ifCond .eq 14, 3) := by decide +kernel
theorem dX6_meeting_12 : decode cX6_meeting 12 = .ok (.aload_n 0, 1) := by decide +kernel
theorem dX6_meeting_13 : decode cX6_meeting 13 = .ok (.getfield 10, 3) := by decide +kernel
theorem dX6_meeting_16 : decode cX6_meeting 16 = .ok (.iload_n 3, 1) := by decide +kernel
theorem dX6_meeting_17 : decode cX6_meeting 17 = .ok (.invokevirtual 94, 3) := by decide +kernel
theorem dX6_meeting_20 : decode cX6_meeting 20 = .ok (.ifCond .ne 5, 3) := by decide +kernel
theorem dX6_meeting_23 : decode cX6_meeting 23 = .ok (.iconst (-1), 1) := by decide +kernel
theorem dX6_meeting_24 : decode cX6_meeting 24 = .ok (.ireturn, 1) := by decide +kernel
theorem dX6_meeting_25 : decode cX6_meeting 25 = .ok (.aload_n 0, 1) := by decide +kernel
theorem dX6_meeting_26 : decode cX6_meeting 26 = .ok (.getfield 21, 3) := by decide +kernel
theorem dX6_meeting_29 : decode cX6_meeting 29 = .ok (.invokevirtual 112, 3) := by decide +kernel
theorem dX6_meeting_32 : decode cX6_meeting 32 = .ok (.aload_n 0, 1) := by decide +kernel
theorem dX6_meeting_33 : decode cX6_meeting 33 = .ok (.getfield 21, 3) := by decide +kernel
theorem dX6_meeting_36 : decode cX6_meeting 36 = .ok (.iload_n 1, 1) := by decide +kernel
theorem dX6_meeting_37 : decode cX6_meeting 37 = .ok (.iload_n 2, 1) := by decide +kernel
theorem dX6_meeting_38 : decode cX6_meeting 38 = .ok (.iload_n 3, 1) := by decide +kernel
theorem dX6_meeting_39 : decode cX6_meeting 39 = .ok (.invokevirtual 173, 3) := by decide +kernel
theorem dX6_meeting_42 : decode cX6_meeting 42 = .ok (.ireturn, 1) := by decide +kernel
theorem dX6_rounds_0 : decode cX6_rounds 0 = .ok (.aload_n 0, 1) := by decide +kernel
theorem dX6_rounds_1 : decode cX6_rounds 1 = .ok (.getfield 10, 3) := by decide +kernel
theorem dX6_rounds_4 : decode cX6_rounds 4 = .ok (.iload_n 1, 1) := by decide +kernel
theorem dX6_rounds_5 : decode cX6_rounds 5 = .ok (.invokevirtual 94, 3) := by decide +kernel
theorem dX6_rounds_8 : decode cX6_rounds 8 = .ok (.ifCond .ne 5, 3) := by decide +kernel
theorem dX6_rounds_11 : decode cX6_rounds 11 = .ok (.iconst (-1), 1) := by decide +kernel
theorem dX6_rounds_12 : decode cX6_rounds 12 = .ok (.ireturn, 1) := by decide +kernel
theorem dX6_rounds_13 : decode cX6_rounds 13 = .ok (.aload_n 0, 1) := by decide +kernel
theorem dX6_rounds_14 : decode cX6_rounds 14 = .ok (.getfield 34, 3) := by decide +kernel
theorem dX6_rounds_17 : decode cX6_rounds 17 = .ok (.aload_n 0, 1) := by decide +kernel
theorem dX6_rounds_18 : decode cX6_rounds 18 = .ok (.getfield 10, 3) := by decide +kernel
theorem dX6_rounds_21 : decode cX6_rounds 21 = .ok (.iload_n 1, 1) := by decide +kernel
theorem dX6_rounds_22 : decode cX6_rounds 22 = .ok (.invokevirtual 176, 3) := by decide +kernel
theorem dX6_rounds_25 : decode cX6_rounds 25 = .ok (.aload_n 0, 1) := by decide +kernel
theorem dX6_rounds_26 : decode cX6_rounds 26 = .ok (.getfield 34, 3) := by decide +kernel
theorem dX6_rounds_29 : decode cX6_rounds 29 = .ok (.invokevirtual 180, 3) := by decide +kernel
theorem dX6_rounds_32 : decode cX6_rounds 32 = .ok (.ireturn, 1) := by decide +kernel
theorem dX6_removalRound_0 : decode cX6_removalRound 0 = .ok (.aload_n 0, 1) := by decide +kernel
theorem dX6_removalRound_1 : decode cX6_removalRound 1 = .ok (.getfield 10, 3) := by decide +kernel
theorem dX6_removalRound_4 : decode cX6_removalRound 4 = .ok (.iload_n 1, 1) := by decide +kernel
theorem dX6_removalRound_5 : decode cX6_removalRound 5 = .ok (.invokevirtual 94, 3) := by decide +kernel
theorem dX6_removalRound_8 : decode cX6_removalRound 8 = .ok (.ifCond .ne 5, 3) := by decide +kernel
theorem dX6_removalRound_11 : decode cX6_removalRound 11 = .ok (.iconst (-1), 1) := by decide +kernel
theorem dX6_removalRound_12 : decode cX6_removalRound 12 = .ok (.ireturn, 1) := by decide +kernel
theorem dX6_removalRound_13 : decode cX6_removalRound 13 = .ok (.aload_n 0, 1) := by decide +kernel
theorem dX6_removalRound_14 : decode cX6_removalRound 14 = .ok (.getfield 34, 3) := by decide +kernel
theorem dX6_removalRound_17 : decode cX6_removalRound 17 = .ok (.aload_n 0, 1) := by decide +kernel
theorem dX6_removalRound_18 : decode cX6_removalRound 18 = .ok (.getfield 10, 3) := by decide +kernel
theorem dX6_removalRound_21 : decode cX6_removalRound 21 = .ok (.iload_n 1, 1) := by decide +kernel
theorem dX6_removalRound_22 : decode cX6_removalRound 22 = .ok (.invokevirtual 176, 3) := by decide +kernel
theorem dX6_removalRound_25 : decode cX6_removalRound 25 = .ok (.aload_n 0, 1) := by decide +kernel
theorem dX6_removalRound_26 : decode cX6_removalRound 26 = .ok (.getfield 34, 3) := by decide +kernel
theorem dX6_removalRound_29 : decode cX6_removalRound 29 = .ok (.iload_n 1, 1) := by decide +kernel
theorem dX6_removalRound_30 : decode cX6_removalRound 30 = .ok (.invokevirtual 183, 3) := by decide +kernel
theorem dX6_removalRound_33 : decode cX6_removalRound 33 = .ok (.ireturn, 1) := by decide +kernel
theorem dX6_survivor_0 : decode cX6_survivor 0 = .ok (.aload_n 0, 1) := by decide +kernel
theorem dX6_survivor_1 : decode cX6_survivor 1 = .ok (.getfield 10, 3) := by decide +kernel
theorem dX6_survivor_4 : decode cX6_survivor 4 = .ok (.iload_n 1, 1) := by decide +kernel
theorem dX6_survivor_5 : decode cX6_survivor 5 = .ok (.invokevirtual 94, 3) := by decide +kernel
theorem dX6_survivor_8 : decode cX6_survivor 8 = .ok (.ifCond .ne 5, 3) := by decide +kernel
theorem dX6_survivor_11 : decode cX6_survivor 11 = .ok (.iconst (-1), 1) := by decide +kernel
theorem dX6_survivor_12 : decode cX6_survivor 12 = .ok (.ireturn, 1) := by decide +kernel
theorem dX6_survivor_13 : decode cX6_survivor 13 = .ok (.aload_n 0, 1) := by decide +kernel
theorem dX6_survivor_14 : decode cX6_survivor 14 = .ok (.getfield 34, 3) := by decide +kernel
theorem dX6_survivor_17 : decode cX6_survivor 17 = .ok (.aload_n 0, 1) := by decide +kernel
theorem dX6_survivor_18 : decode cX6_survivor 18 = .ok (.getfield 10, 3) := by decide +kernel
theorem dX6_survivor_21 : decode cX6_survivor 21 = .ok (.iload_n 1, 1) := by decide +kernel
theorem dX6_survivor_22 : decode cX6_survivor 22 = .ok (.invokevirtual 176, 3) := by decide +kernel
theorem dX6_survivor_25 : decode cX6_survivor 25 = .ok (.aload_n 0, 1) := by decide +kernel
theorem dX6_survivor_26 : decode cX6_survivor 26 = .ok (.getfield 34, 3) := by decide +kernel
theorem dX6_survivor_29 : decode cX6_survivor 29 = .ok (.invokevirtual 186, 3) := by decide +kernel
theorem dX6_survivor_32 : decode cX6_survivor 32 = .ok (.ireturn, 1) := by decide +kernel
theorem dX6_balancedCut_0 : decode cX6_balancedCut 0 = .ok (.aload_n 0, 1) := by decide +kernel
theorem dX6_balancedCut_1 : decode cX6_balancedCut 1 = .ok (.getfield 10, 3) := by decide +kernel
theorem dX6_balancedCut_4 : decode cX6_balancedCut 4 = .ok (.iload_n 1, 1) := by decide +kernel
theorem dX6_balancedCut_5 : decode cX6_balancedCut 5 = .ok (.invokevirtual 94, 3) := by decide +kernel
theorem dX6_balancedCut_8 : decode cX6_balancedCut 8 = .ok (.ifCond .ne 5, 3) := by decide +kernel
theorem dX6_balancedCut_11 : decode cX6_balancedCut 11 = .ok (.iconst (-1), 1) := by decide +kernel
theorem dX6_balancedCut_12 : decode cX6_balancedCut 12 = .ok (.ireturn, 1) := by decide +kernel
theorem dX6_balancedCut_13 : decode cX6_balancedCut 13 = .ok (.aload_n 0, 1) := by decide +kernel
theorem dX6_balancedCut_14 : decode cX6_balancedCut 14 = .ok (.getfield 21, 3) := by decide +kernel
theorem dX6_balancedCut_17 : decode cX6_balancedCut 17 = .ok (.invokevirtual 112, 3) := by decide +kernel
theorem dX6_balancedCut_20 : decode cX6_balancedCut 20 = .ok (.aload_n 0, 1) := by decide +kernel
theorem dX6_balancedCut_21 : decode cX6_balancedCut 21 = .ok (.getfield 21, 3) := by decide +kernel
theorem dX6_balancedCut_24 : decode cX6_balancedCut 24 = .ok (.iload_n 1, 1) := by decide +kernel
theorem dX6_balancedCut_25 : decode cX6_balancedCut 25 = .ok (.invokevirtual 189, 3) := by decide +kernel
theorem dX6_balancedCut_28 : decode cX6_balancedCut 28 = .ok (.ireturn, 1) := by decide +kernel
theorem dX6_expectedReach_0 : decode cX6_expectedReach 0 = .ok (.aload_n 0, 1) := by decide +kernel
theorem dX6_expectedReach_1 : decode cX6_expectedReach 1 = .ok (.getfield 10, 3) := by decide +kernel
theorem dX6_expectedReach_4 : decode cX6_expectedReach 4 = .ok (.iload_n 1, 1) := by decide +kernel
theorem dX6_expectedReach_5 : decode cX6_expectedReach 5 = .ok (.invokevirtual 94, 3) := by decide +kernel
theorem dX6_expectedReach_8 : decode cX6_expectedReach 8 = .ok (.ifCond .ne 7, 3) := by decide +kernel
theorem dX6_expectedReach_11 : decode cX6_expectedReach 11 = .ok (.ldc2_w 192, 3) := by decide +kernel
theorem dX6_expectedReach_14 : decode cX6_expectedReach 14 = .ok (.lreturn, 1) := by decide +kernel
theorem dX6_expectedReach_15 : decode cX6_expectedReach 15 = .ok (.iload_n 2, 1) := by decide +kernel
theorem dX6_expectedReach_16 : decode cX6_expectedReach 16 = .ok (.ifCond .lt 9, 3) := by decide +kernel
theorem dX6_expectedReach_19 : decode cX6_expectedReach 19 = .ok (.iload_n 2, 1) := by decide +kernel
theorem dX6_expectedReach_20 : decode cX6_expectedReach 20 = .ok (.bipush 10, 2) := by decide +kernel
theorem dX6_expectedReach_22 : decode cX6_expectedReach 22 = .ok (.if_icmp .le 7, 3) := by decide +kernel
theorem dX6_expectedReach_25 : decode cX6_expectedReach 25 = .ok (.ldc2_w 194, 3) := by decide +kernel
theorem dX6_expectedReach_28 : decode cX6_expectedReach 28 = .ok (.lreturn, 1) := by decide +kernel
theorem dX6_expectedReach_29 : decode cX6_expectedReach 29 = .ok (.aload_n 0, 1) := by decide +kernel
theorem dX6_expectedReach_30 : decode cX6_expectedReach 30 = .ok (.getfield 21, 3) := by decide +kernel
theorem dX6_expectedReach_33 : decode cX6_expectedReach 33 = .ok (.invokevirtual 112, 3) := by decide +kernel
theorem dX6_expectedReach_36 : decode cX6_expectedReach 36 = .ok (.aload_n 0, 1) := by decide +kernel
theorem dX6_expectedReach_37 : decode cX6_expectedReach 37 = .ok (.getfield 21, 3) := by decide +kernel
theorem dX6_expectedReach_40 : decode cX6_expectedReach 40 = .ok (.iload_n 1, 1) := by decide +kernel
theorem dX6_expectedReach_41 : decode cX6_expectedReach 41 = .ok (.bipush 10, 2) := by decide +kernel
theorem dX6_expectedReach_43 : decode cX6_expectedReach 43 = .ok (.iload_n 2, 1) := by decide +kernel
theorem dX6_expectedReach_44 : decode cX6_expectedReach 44 = .ok (.isub, 1) := by decide +kernel
theorem dX6_expectedReach_45 : decode cX6_expectedReach 45 = .ok (.invokevirtual 196, 3) := by decide +kernel
theorem dX6_expectedReach_48 : decode cX6_expectedReach 48 = .ok (.lreturn, 1) := by decide +kernel
theorem dX6_observe_0 : decode cX6_observe 0 = .ok (.iload_n 1, 1) := by decide +kernel
theorem dX6_observe_1 : decode cX6_observe 1 = .ok (.ifCond .lt 19, 3) := by decide +kernel
theorem dX6_observe_4 : decode cX6_observe 4 = .ok (.iload_n 1, 1) := by decide +kernel
theorem dX6_observe_5 : decode cX6_observe 5 = .ok (.bipush 12, 2) := by decide +kernel
theorem dX6_observe_7 : decode cX6_observe 7 = .ok (.if_icmp .ge 13, 3) := by decide +kernel
theorem dX6_observe_10 : decode cX6_observe 10 = .ok (.iload_n 2, 1) := by decide +kernel
theorem dX6_observe_11 : decode cX6_observe 11 = .ok (.ifCond .lt 9, 3) := by decide +kernel
theorem dX6_observe_14 : decode cX6_observe 14 = .ok (.iload_n 2, 1) := by decide +kernel
theorem dX6_observe_15 : decode cX6_observe 15 = .ok (.bipush 12, 2) := by decide +kernel
theorem dX6_observe_17 : decode cX6_observe 17 = .ok (.if_icmp .lt 6, 3) := by decide +kernel
theorem dX6_observe_20 : decode cX6_observe 20 = .ok (.bipush (-2), 2) := by decide +kernel
theorem dX6_observe_22 : decode cX6_observe 22 = .ok (.ireturn, 1) := by decide +kernel
theorem dX6_observe_23 : decode cX6_observe 23 = .ok (.iload_n 3, 1) := by decide +kernel
theorem dX6_observe_24 : decode cX6_observe 24 = .ok (.ifCond .lt 10, 3) := by decide +kernel
theorem dX6_observe_27 : decode cX6_observe 27 = .ok (.iload_n 3, 1) := by decide +kernel
theorem dX6_observe_28 : decode cX6_observe 28 = .ok (.sipush 999, 3) := by decide +kernel
theorem dX6_observe_31 : decode cX6_observe 31 = .ok (.if_icmp .le 6, 3) := by decide +kernel
theorem dX6_observe_34 : decode cX6_observe 34 = .ok (.bipush (-2), 2) := by decide +kernel
theorem dX6_observe_36 : decode cX6_observe 36 = .ok (.ireturn, 1) := by decide +kernel
theorem dX6_observe_37 : decode cX6_observe 37 = .ok (.aload_n 0, 1) := by decide +kernel
theorem dX6_observe_38 : decode cX6_observe 38 = .ok (.getfield 55, 3) := by decide +kernel
theorem dX6_observe_41 : decode cX6_observe 41 = .ok (.iload_n 1, 1) := by decide +kernel
theorem dX6_observe_42 : decode cX6_observe 42 = .ok (.iload_n 2, 1) := by decide +kernel
theorem dX6_observe_43 : decode cX6_observe 43 = .ok (.iload_n 3, 1) := by decide +kernel
theorem dX6_observe_44 : decode cX6_observe 44 = .ok (.invokevirtual 200, 3) := by decide +kernel
theorem dX6_observe_47 : decode cX6_observe 47 = .ok (.ireturn, 1) := by decide +kernel
theorem dX6_possibleWeights_0 : decode cX6_possibleWeights 0 = .ok (.aload_n 0, 1) := by decide +kernel
theorem dX6_possibleWeights_1 : decode cX6_possibleWeights 1 = .ok (.getfield 10, 3) := by decide +kernel
theorem dX6_possibleWeights_4 : decode cX6_possibleWeights 4 = .ok (.iload_n 1, 1) := by decide +kernel
theorem dX6_possibleWeights_5 : decode cX6_possibleWeights 5 = .ok (.iload_n 2, 1) := by decide +kernel
theorem dX6_possibleWeights_6 : decode cX6_possibleWeights 6 = .ok (.invokevirtual 101, 3) := by decide +kernel
theorem dX6_possibleWeights_9 : decode cX6_possibleWeights 9 = .ok (.ifCond .ne 5, 3) := by decide +kernel
theorem dX6_possibleWeights_12 : decode cX6_possibleWeights 12 = .ok (.iconst (-1), 1) := by decide +kernel
theorem dX6_possibleWeights_13 : decode cX6_possibleWeights 13 = .ok (.ireturn, 1) := by decide +kernel
theorem dX6_possibleWeights_14 : decode cX6_possibleWeights 14 = .ok (.aload_n 0, 1) := by decide +kernel
theorem dX6_possibleWeights_15 : decode cX6_possibleWeights 15 = .ok (.getfield 10, 3) := by decide +kernel
theorem dX6_possibleWeights_18 : decode cX6_possibleWeights 18 = .ok (.iload_n 1, 1) := by decide +kernel
theorem dX6_possibleWeights_19 : decode cX6_possibleWeights 19 = .ok (.iload_n 2, 1) := by decide +kernel
theorem dX6_possibleWeights_20 : decode cX6_possibleWeights 20 = .ok (.invokevirtual 105, 3) := by decide +kernel
theorem dX6_possibleWeights_23 : decode cX6_possibleWeights 23 = .ok (.ifCond .ne 6, 3) := by decide +kernel
theorem dX6_possibleWeights_26 : decode cX6_possibleWeights 26 = .ok (.bipush (-3), 2) := by decide +kernel
theorem dX6_possibleWeights_28 : decode cX6_possibleWeights 28 = .ok (.ireturn, 1) := by decide +kernel
theorem dX6_possibleWeights_29 : decode cX6_possibleWeights 29 = .ok (.aload_n 0, 1) := by decide +kernel
theorem dX6_possibleWeights_30 : decode cX6_possibleWeights 30 = .ok (.getfield 21, 3) := by decide +kernel
theorem dX6_possibleWeights_33 : decode cX6_possibleWeights 33 = .ok (.invokevirtual 112, 3) := by decide +kernel
theorem dX6_possibleWeights_36 : decode cX6_possibleWeights 36 = .ok (.aload_n 0, 1) := by decide +kernel
theorem dX6_possibleWeights_37 : decode cX6_possibleWeights 37 = .ok (.getfield 55, 3) := by decide +kernel
theorem dX6_possibleWeights_40 : decode cX6_possibleWeights 40 = .ok (.aload_n 0, 1) := by decide +kernel
theorem dX6_possibleWeights_41 : decode cX6_possibleWeights 41 = .ok (.getfield 21, 3) := by decide +kernel
theorem dX6_possibleWeights_44 : decode cX6_possibleWeights 44 = .ok (.iload_n 1, 1) := by decide +kernel
theorem dX6_possibleWeights_45 : decode cX6_possibleWeights 45 = .ok (.iload_n 2, 1) := by decide +kernel
theorem dX6_possibleWeights_46 : decode cX6_possibleWeights 46 = .ok (.invokevirtual 203, 3) := by decide +kernel
theorem dX6_possibleWeights_49 : decode cX6_possibleWeights 49 = .ok (.ireturn, 1) := by decide +kernel
theorem dX6_runScript_0 : decode cX6_runScript 0 = .ok (.iload_n 1, 1) := by decide +kernel
theorem dX6_runScript_1 : decode cX6_runScript 1 = .ok (.iconst 1, 1) := by decide +kernel
theorem dX6_runScript_2 : decode cX6_runScript 2 = .ok (.if_icmp .lt 14, 3) := by decide +kernel
theorem dX6_runScript_5 : decode cX6_runScript 5 = .ok (.iload_n 1, 1) := by decide +kernel
theorem dX6_runScript_6 : decode cX6_runScript 6 = .ok (.iconst 3, 1) := by decide +kernel
theorem dX6_runScript_7 : decode cX6_runScript 7 = .ok (.if_icmp .gt 9, 3) := by decide +kernel
theorem dX6_runScript_10 : decode cX6_runScript 10 = .ok (.lload_n 2, 1) := by decide +kernel
theorem dX6_runScript_11 : decode cX6_runScript 11 = .ok (.lconst 0, 1) := by decide +kernel
theorem dX6_runScript_12 : decode cX6_runScript 12 = .ok (.lcmp, 1) := by decide +kernel
theorem dX6_runScript_13 : decode cX6_runScript 13 = .ok (.ifCond .ge 6, 3) := by decide +kernel
theorem dX6_runScript_16 : decode cX6_runScript 16 = .ok (.bipush (-2), 2) := by decide +kernel
theorem dX6_runScript_18 : decode cX6_runScript 18 = .ok (.ireturn, 1) := by decide +kernel
theorem dX6_runScript_19 : decode cX6_runScript 19 = .ok (.lconst 1, 1) := by decide +kernel
theorem dX6_runScript_20 : decode cX6_runScript 20 = .ok (.lstore 4, 2) := by decide +kernel
theorem dX6_runScript_22 : decode cX6_runScript 22 = .ok (.iconst 0, 1) := by decide +kernel
theorem dX6_runScript_23 : decode cX6_runScript 23 = .ok (.istore 6, 2) := by decide +kernel
theorem dX6_runScript_25 : decode cX6_runScript 25 = .ok (.iload 6, 2) := by decide +kernel
theorem dX6_runScript_27 : decode cX6_runScript 27 = .ok (.iload_n 1, 1) := by decide +kernel
theorem dX6_runScript_28 : decode cX6_runScript 28 = .ok (.if_icmp .ge 17, 3) := by decide +kernel
theorem dX6_runScript_31 : decode cX6_runScript 31 = .ok (.lload 4, 2) := by decide +kernel
theorem dX6_runScript_33 : decode cX6_runScript 33 = .ok (.ldc2_w 207, 3) := by decide +kernel
theorem dX6_runScript_36 : decode cX6_runScript 36 = .ok (.lmul, 1) := by decide +kernel
theorem dX6_runScript_37 : decode cX6_runScript 37 = .ok (.lstore 4, 2) := by decide +kernel
theorem dX6_runScript_39 : decode cX6_runScript 39 = .ok (.iinc 6 1, 3) := by decide +kernel
theorem dX6_runScript_42 : decode cX6_runScript 42 = .ok (.goto (-17), 3) := by decide +kernel
theorem dX6_runScript_45 : decode cX6_runScript 45 = .ok (.lload_n 2, 1) := by decide +kernel
theorem dX6_runScript_46 : decode cX6_runScript 46 = .ok (.lload 4, 2) := by decide +kernel
theorem dX6_runScript_48 : decode cX6_runScript 48 = .ok (.lcmp, 1) := by decide +kernel
theorem dX6_runScript_49 : decode cX6_runScript 49 = .ok (.ifCond .lt 6, 3) := by decide +kernel
theorem dX6_runScript_52 : decode cX6_runScript 52 = .ok (.bipush (-2), 2) := by decide +kernel
theorem dX6_runScript_54 : decode cX6_runScript 54 = .ok (.ireturn, 1) := by decide +kernel
theorem dX6_runScript_55 : decode cX6_runScript 55 = .ok (.aload_n 0, 1) := by decide +kernel
theorem dX6_runScript_56 : decode cX6_runScript 56 = .ok (.getfield 25, 3) := by decide +kernel
theorem dX6_runScript_59 : decode cX6_runScript 59 = .ok (.aload_n 0, 1) := by decide +kernel
theorem dX6_runScript_60 : decode cX6_runScript 60 = .ok (.getfield 10, 3) := by decide +kernel
theorem dX6_runScript_63 : decode cX6_runScript 63 = .ok (.invokevirtual 82, 3) := by decide +kernel
theorem dX6_runScript_66 : decode cX6_runScript 66 = .ok (.iconst 0, 1) := by decide +kernel
theorem dX6_runScript_67 : decode cX6_runScript 67 = .ok (.istore 6, 2) := by decide +kernel
theorem dX6_runScript_69 : decode cX6_runScript 69 = .ok (.iload 6, 2) := by decide +kernel
theorem dX6_runScript_71 : decode cX6_runScript 71 = .ok (.iload_n 1, 1) := by decide +kernel
theorem dX6_runScript_72 : decode cX6_runScript 72 = .ok (.if_icmp .ge 43, 3) := by decide +kernel
theorem dX6_runScript_75 : decode cX6_runScript 75 = .ok (.lload 4, 2) := by decide +kernel
theorem dX6_runScript_77 : decode cX6_runScript 77 = .ok (.ldc2_w 207, 3) := by decide +kernel
theorem dX6_runScript_80 : decode cX6_runScript 80 = .ok (.ldiv, 1) := by decide +kernel
theorem dX6_runScript_81 : decode cX6_runScript 81 = .ok (.lstore 4, 2) := by decide +kernel
theorem dX6_runScript_83 : decode cX6_runScript 83 = .ok (.lload 4, 2) := by decide +kernel
theorem dX6_runScript_85 : decode cX6_runScript 85 = .ok (.lconst 1, 1) := by decide +kernel
theorem dX6_runScript_86 : decode cX6_runScript 86 = .ok (.lcmp, 1) := by decide +kernel
theorem dX6_runScript_87 : decode cX6_runScript 87 = .ok (.ifCond .lt 19, 3) := by decide +kernel
theorem dX6_runScript_90 : decode cX6_runScript 90 = .ok (.aload_n 0, 1) := by decide +kernel
theorem dX6_runScript_91 : decode cX6_runScript 91 = .ok (.lload_n 2, 1) := by decide +kernel
theorem dX6_runScript_92 : decode cX6_runScript 92 = .ok (.lload 4, 2) := by decide +kernel
theorem dX6_runScript_94 : decode cX6_runScript 94 = .ok (.ldiv, 1) := by decide +kernel
theorem dX6_runScript_95 : decode cX6_runScript 95 = .ok (.ldc2_w 207, 3) := by decide +kernel
theorem dX6_runScript_98 : decode cX6_runScript 98 = .ok (.lrem, 1) := by decide +kernel
theorem dX6_runScript_99 : decode cX6_runScript 99 = .ok (.l2i, 1) := by decide +kernel
theorem dX6_runScript_100 : decode cX6_runScript 100 = .ok (.invokevirtual 209, 3) := by decide +kernel
theorem dX6_runScript_103 : decode cX6_runScript 103 = .ok (.ifCond .ne 6, 3) := by decide +kernel
theorem dX6_runScript_106 : decode cX6_runScript 106 = .ok (.iload 6, 2) := by decide +kernel
theorem dX6_runScript_108 : decode cX6_runScript 108 = .ok (.ireturn, 1) := by decide +kernel
theorem dX6_runScript_109 : decode cX6_runScript 109 = .ok (.iinc 6 1, 3) := by decide +kernel
theorem dX6_runScript_112 : decode cX6_runScript 112 = .ok (.goto (-43), 3) := by decide +kernel
theorem dX6_runScript_115 : decode cX6_runScript 115 = .ok (.bipush (-9), 2) := by decide +kernel
theorem dX6_runScript_117 : decode cX6_runScript 117 = .ok (.ireturn, 1) := by decide +kernel
theorem dX6_obeys_0 : decode cX6_obeys 0 = .ok (.iload_n 1, 1) := by decide +kernel
theorem dX6_obeys_1 : decode cX6_obeys 1 = .ok (.bipush 100, 2) := by decide +kernel
theorem dX6_obeys_3 : decode cX6_obeys 3 = .ok (.idiv, 1) := by decide +kernel
theorem dX6_obeys_4 : decode cX6_obeys 4 = .ok (.bipush 100, 2) := by decide +kernel
theorem dX6_obeys_6 : decode cX6_obeys 6 = .ok (.irem, 1) := by decide +kernel
theorem dX6_obeys_7 : decode cX6_obeys 7 = .ok (.istore_n 2, 1) := by decide +kernel
theorem dX6_obeys_8 : decode cX6_obeys 8 = .ok (.iload_n 1, 1) := by decide +kernel
theorem dX6_obeys_9 : decode cX6_obeys 9 = .ok (.bipush 100, 2) := by decide +kernel
theorem dX6_obeys_11 : decode cX6_obeys 11 = .ok (.irem, 1) := by decide +kernel
theorem dX6_obeys_12 : decode cX6_obeys 12 = .ok (.istore_n 3, 1) := by decide +kernel
theorem dX6_obeys_13 : decode cX6_obeys 13 = .ok (.iload_n 1, 1) := by decide +kernel
theorem dX6_obeys_14 : decode cX6_obeys 14 = .ok (.sipush 10000, 3) := by decide +kernel
theorem dX6_obeys_17 : decode cX6_obeys 17 = .ok (.idiv, 1) := by decide +kernel
theorem dX6_obeys_18 : decode cX6_obeys 18 = .ok (.tableswitch 106 1 5 #[34, 41, 48, 55, 82], 34) := by decide +kernel
theorem dX6_obeys_52 : decode cX6_obeys 52 = .ok (.aload_n 0, 1) := by decide +kernel
theorem dX6_obeys_53 : decode cX6_obeys 53 = .ok (.iload_n 2, 1) := by decide +kernel
theorem dX6_obeys_54 : decode cX6_obeys 54 = .ok (.iload_n 3, 1) := by decide +kernel
theorem dX6_obeys_55 : decode cX6_obeys 55 = .ok (.invokevirtual 212, 3) := by decide +kernel
theorem dX6_obeys_58 : decode cX6_obeys 58 = .ok (.ireturn, 1) := by decide +kernel
theorem dX6_obeys_59 : decode cX6_obeys 59 = .ok (.aload_n 0, 1) := by decide +kernel
theorem dX6_obeys_60 : decode cX6_obeys 60 = .ok (.iload_n 2, 1) := by decide +kernel
theorem dX6_obeys_61 : decode cX6_obeys 61 = .ok (.iload_n 3, 1) := by decide +kernel
theorem dX6_obeys_62 : decode cX6_obeys 62 = .ok (.invokevirtual 215, 3) := by decide +kernel
theorem dX6_obeys_65 : decode cX6_obeys 65 = .ok (.ireturn, 1) := by decide +kernel
theorem dX6_obeys_66 : decode cX6_obeys 66 = .ok (.aload_n 0, 1) := by decide +kernel
theorem dX6_obeys_67 : decode cX6_obeys 67 = .ok (.iload_n 2, 1) := by decide +kernel
theorem dX6_obeys_68 : decode cX6_obeys 68 = .ok (.iload_n 3, 1) := by decide +kernel
theorem dX6_obeys_69 : decode cX6_obeys 69 = .ok (.invokevirtual 218, 3) := by decide +kernel
theorem dX6_obeys_72 : decode cX6_obeys 72 = .ok (.ireturn, 1) := by decide +kernel
theorem dX6_obeys_73 : decode cX6_obeys 73 = .ok (.aload_n 0, 1) := by decide +kernel
theorem dX6_obeys_74 : decode cX6_obeys 74 = .ok (.iload_n 2, 1) := by decide +kernel
theorem dX6_obeys_75 : decode cX6_obeys 75 = .ok (.iload_n 3, 1) := by decide +kernel
theorem dX6_obeys_76 : decode cX6_obeys 76 = .ok (.invokevirtual 218, 3) := by decide +kernel
theorem dX6_obeys_79 : decode cX6_obeys 79 = .ok (.ifCond .eq 19, 3) := by decide +kernel
theorem dX6_obeys_82 : decode cX6_obeys 82 = .ok (.aload_n 0, 1) := by decide +kernel
theorem dX6_obeys_83 : decode cX6_obeys 83 = .ok (.getfield 28, 3) := by decide +kernel
theorem dX6_obeys_86 : decode cX6_obeys 86 = .ok (.iload_n 2, 1) := by decide +kernel
theorem dX6_obeys_87 : decode cX6_obeys 87 = .ok (.invokevirtual 164, 3) := by decide +kernel
theorem dX6_obeys_90 : decode cX6_obeys 90 = .ok (.iload_n 3, 1) := by decide +kernel
theorem dX6_obeys_91 : decode cX6_obeys 91 = .ok (.if_icmp .ne 7, 3) := by decide +kernel
theorem dX6_obeys_94 : decode cX6_obeys 94 = .ok (.iconst 1, 1) := by decide +kernel
theorem dX6_obeys_95 : decode cX6_obeys 95 = .ok (.goto 4, 3) := by decide +kernel
theorem dX6_obeys_98 : decode cX6_obeys 98 = .ok (.iconst 0, 1) := by decide +kernel
theorem dX6_obeys_99 : decode cX6_obeys 99 = .ok (.ireturn, 1) := by decide +kernel
theorem dX6_obeys_100 : decode cX6_obeys 100 = .ok (.aload_n 0, 1) := by decide +kernel
theorem dX6_obeys_101 : decode cX6_obeys 101 = .ok (.iload_n 2, 1) := by decide +kernel
theorem dX6_obeys_102 : decode cX6_obeys 102 = .ok (.iload_n 3, 1) := by decide +kernel
theorem dX6_obeys_103 : decode cX6_obeys 103 = .ok (.invokevirtual 218, 3) := by decide +kernel
theorem dX6_obeys_106 : decode cX6_obeys 106 = .ok (.ifCond .eq 16, 3) := by decide +kernel
theorem dX6_obeys_109 : decode cX6_obeys 109 = .ok (.aload_n 0, 1) := by decide +kernel
theorem dX6_obeys_110 : decode cX6_obeys 110 = .ok (.iload_n 2, 1) := by decide +kernel
theorem dX6_obeys_111 : decode cX6_obeys 111 = .ok (.iload_n 3, 1) := by decide +kernel
theorem dX6_obeys_112 : decode cX6_obeys 112 = .ok (.invokevirtual 221, 3) := by decide +kernel
theorem dX6_obeys_115 : decode cX6_obeys 115 = .ok (.ifCond .eq 7, 3) := by decide +kernel
theorem dX6_obeys_118 : decode cX6_obeys 118 = .ok (.iconst 1, 1) := by decide +kernel
theorem dX6_obeys_119 : decode cX6_obeys 119 = .ok (.goto 4, 3) := by decide +kernel
theorem dX6_obeys_122 : decode cX6_obeys 122 = .ok (.iconst 0, 1) := by decide +kernel
theorem dX6_obeys_123 : decode cX6_obeys 123 = .ok (.ireturn, 1) := by decide +kernel
theorem dX6_obeys_124 : decode cX6_obeys 124 = .ok (.iconst 0, 1) := by decide +kernel
theorem dX6_obeys_125 : decode cX6_obeys 125 = .ok (.ireturn, 1) := by decide +kernel
theorem dX6_triesLink_0 : decode cX6_triesLink 0 = .ok (.aload_n 0, 1) := by decide +kernel
theorem dX6_triesLink_1 : decode cX6_triesLink 1 = .ok (.getfield 25, 3) := by decide +kernel
theorem dX6_triesLink_4 : decode cX6_triesLink 4 = .ok (.aload_n 0, 1) := by decide +kernel
theorem dX6_triesLink_5 : decode cX6_triesLink 5 = .ok (.getfield 28, 3) := by decide +kernel
theorem dX6_triesLink_8 : decode cX6_triesLink 8 = .ok (.iload_n 1, 1) := by decide +kernel
theorem dX6_triesLink_9 : decode cX6_triesLink 9 = .ok (.iload_n 2, 1) := by decide +kernel
theorem dX6_triesLink_10 : decode cX6_triesLink 10 = .ok (.iconst 1, 1) := by decide +kernel
theorem dX6_triesLink_11 : decode cX6_triesLink 11 = .ok (.invokestatic 118, 3) := by decide +kernel
theorem dX6_triesLink_14 : decode cX6_triesLink 14 = .ok (.ifCond .eq 5, 3) := by decide +kernel
theorem dX6_triesLink_17 : decode cX6_triesLink 17 = .ok (.iconst 0, 1) := by decide +kernel
theorem dX6_triesLink_18 : decode cX6_triesLink 18 = .ok (.ireturn, 1) := by decide +kernel
theorem dX6_triesLink_19 : decode cX6_triesLink 19 = .ok (.aload_n 0, 1) := by decide +kernel
theorem dX6_triesLink_20 : decode cX6_triesLink 20 = .ok (.getfield 25, 3) := by decide +kernel
theorem dX6_triesLink_23 : decode cX6_triesLink 23 = .ok (.iload_n 1, 1) := by decide +kernel
theorem dX6_triesLink_24 : decode cX6_triesLink 24 = .ok (.iload_n 2, 1) := by decide +kernel
theorem dX6_triesLink_25 : decode cX6_triesLink 25 = .ok (.iconst 1, 1) := by decide +kernel
theorem dX6_triesLink_26 : decode cX6_triesLink 26 = .ok (.invokevirtual 125, 3) := by decide +kernel
theorem dX6_triesLink_29 : decode cX6_triesLink 29 = .ok (.iconst 1, 1) := by decide +kernel
theorem dX6_triesLink_30 : decode cX6_triesLink 30 = .ok (.ireturn, 1) := by decide +kernel
theorem dX6_triesCut_0 : decode cX6_triesCut 0 = .ok (.aload_n 0, 1) := by decide +kernel
theorem dX6_triesCut_1 : decode cX6_triesCut 1 = .ok (.getfield 25, 3) := by decide +kernel
theorem dX6_triesCut_4 : decode cX6_triesCut 4 = .ok (.iload_n 1, 1) := by decide +kernel
theorem dX6_triesCut_5 : decode cX6_triesCut 5 = .ok (.iload_n 2, 1) := by decide +kernel
theorem dX6_triesCut_6 : decode cX6_triesCut 6 = .ok (.invokestatic 129, 3) := by decide +kernel
theorem dX6_triesCut_9 : decode cX6_triesCut 9 = .ok (.ifCond .eq 5, 3) := by decide +kernel
theorem dX6_triesCut_12 : decode cX6_triesCut 12 = .ok (.iconst 0, 1) := by decide +kernel
theorem dX6_triesCut_13 : decode cX6_triesCut 13 = .ok (.ireturn, 1) := by decide +kernel
theorem dX6_triesCut_14 : decode cX6_triesCut 14 = .ok (.aload_n 0, 1) := by decide +kernel
theorem dX6_triesCut_15 : decode cX6_triesCut 15 = .ok (.getfield 25, 3) := by decide +kernel
theorem dX6_triesCut_18 : decode cX6_triesCut 18 = .ok (.iload_n 1, 1) := by decide +kernel
theorem dX6_triesCut_19 : decode cX6_triesCut 19 = .ok (.iload_n 2, 1) := by decide +kernel
theorem dX6_triesCut_20 : decode cX6_triesCut 20 = .ok (.iconst 0, 1) := by decide +kernel
theorem dX6_triesCut_21 : decode cX6_triesCut 21 = .ok (.invokevirtual 125, 3) := by decide +kernel
theorem dX6_triesCut_24 : decode cX6_triesCut 24 = .ok (.iconst 1, 1) := by decide +kernel
theorem dX6_triesCut_25 : decode cX6_triesCut 25 = .ok (.ireturn, 1) := by decide +kernel
theorem dX6_joinedInTrial_0 : decode cX6_joinedInTrial 0 = .ok (.aload_n 0, 1) := by decide +kernel
theorem dX6_joinedInTrial_1 : decode cX6_joinedInTrial 1 = .ok (.getfield 28, 3) := by decide +kernel
theorem dX6_joinedInTrial_4 : decode cX6_joinedInTrial 4 = .ok (.invokevirtual 112, 3) := by decide +kernel
theorem dX6_joinedInTrial_7 : decode cX6_joinedInTrial 7 = .ok (.aload_n 0, 1) := by decide +kernel
theorem dX6_joinedInTrial_8 : decode cX6_joinedInTrial 8 = .ok (.getfield 28, 3) := by decide +kernel
theorem dX6_joinedInTrial_11 : decode cX6_joinedInTrial 11 = .ok (.iload_n 1, 1) := by decide +kernel
theorem dX6_joinedInTrial_12 : decode cX6_joinedInTrial 12 = .ok (.iload_n 2, 1) := by decide +kernel
theorem dX6_joinedInTrial_13 : decode cX6_joinedInTrial 13 = .ok (.invokevirtual 142, 3) := by decide +kernel
theorem dX6_joinedInTrial_16 : decode cX6_joinedInTrial 16 = .ok (.ireturn, 1) := by decide +kernel
theorem dX6_leavesEarlier_0 : decode cX6_leavesEarlier 0 = .ok (.aload_n 0, 1) := by decide +kernel
theorem dX6_leavesEarlier_1 : decode cX6_leavesEarlier 1 = .ok (.getfield 34, 3) := by decide +kernel
theorem dX6_leavesEarlier_4 : decode cX6_leavesEarlier 4 = .ok (.aload_n 0, 1) := by decide +kernel
theorem dX6_leavesEarlier_5 : decode cX6_leavesEarlier 5 = .ok (.getfield 25, 3) := by decide +kernel
theorem dX6_leavesEarlier_8 : decode cX6_leavesEarlier 8 = .ok (.iload_n 1, 1) := by decide +kernel
theorem dX6_leavesEarlier_9 : decode cX6_leavesEarlier 9 = .ok (.invokevirtual 176, 3) := by decide +kernel
theorem dX6_leavesEarlier_12 : decode cX6_leavesEarlier 12 = .ok (.aload_n 0, 1) := by decide +kernel
theorem dX6_leavesEarlier_13 : decode cX6_leavesEarlier 13 = .ok (.getfield 34, 3) := by decide +kernel
theorem dX6_leavesEarlier_16 : decode cX6_leavesEarlier 16 = .ok (.iload_n 1, 1) := by decide +kernel
theorem dX6_leavesEarlier_17 : decode cX6_leavesEarlier 17 = .ok (.invokevirtual 183, 3) := by decide +kernel
theorem dX6_leavesEarlier_20 : decode cX6_leavesEarlier 20 = .ok (.istore_n 3, 1) := by decide +kernel
theorem dX6_leavesEarlier_21 : decode cX6_leavesEarlier 21 = .ok (.aload_n 0, 1) := by decide +kernel
theorem dX6_leavesEarlier_22 : decode cX6_leavesEarlier 22 = .ok (.getfield 34, 3) := by decide +kernel
theorem dX6_leavesEarlier_25 : decode cX6_leavesEarlier 25 = .ok (.iload_n 2, 1) := by decide +kernel
theorem dX6_leavesEarlier_26 : decode cX6_leavesEarlier 26 = .ok (.invokevirtual 183, 3) := by decide +kernel
theorem dX6_leavesEarlier_29 : decode cX6_leavesEarlier 29 = .ok (.istore 4, 2) := by decide +kernel
theorem dX6_leavesEarlier_31 : decode cX6_leavesEarlier 31 = .ok (.iload_n 3, 1) := by decide +kernel
theorem dX6_leavesEarlier_32 : decode cX6_leavesEarlier 32 = .ok (.bipush (-9), 2) := by decide +kernel
theorem dX6_leavesEarlier_34 : decode cX6_leavesEarlier 34 = .ok (.if_icmp .eq 20, 3) := by decide +kernel
theorem dX6_leavesEarlier_37 : decode cX6_leavesEarlier 37 = .ok (.iload 4, 2) := by decide +kernel
theorem dX6_leavesEarlier_39 : decode cX6_leavesEarlier 39 = .ok (.bipush (-9), 2) := by decide +kernel
theorem dX6_leavesEarlier_41 : decode cX6_leavesEarlier 41 = .ok (.if_icmp .eq 9, 3) := by decide +kernel
theorem dX6_leavesEarlier_44 : decode cX6_leavesEarlier 44 = .ok (.iload_n 3, 1) := by decide +kernel
theorem dX6_leavesEarlier_45 : decode cX6_leavesEarlier 45 = .ok (.iload 4, 2) := by decide +kernel
theorem dX6_leavesEarlier_47 : decode cX6_leavesEarlier 47 = .ok (.if_icmp .ge 7, 3) := by decide +kernel
theorem dX6_leavesEarlier_50 : decode cX6_leavesEarlier 50 = .ok (.iconst 1, 1) := by decide +kernel
theorem dX6_leavesEarlier_51 : decode cX6_leavesEarlier 51 = .ok (.goto 4, 3) := by decide +kernel
theorem dX6_leavesEarlier_54 : decode cX6_leavesEarlier 54 = .ok (.iconst 0, 1) := by decide +kernel
theorem dX6_leavesEarlier_55 : decode cX6_leavesEarlier 55 = .ok (.ireturn, 1) := by decide +kernel
theorem dX6_randomChanges_0 : decode cX6_randomChanges 0 = .ok (.iload_n 3, 1) := by decide +kernel
theorem dX6_randomChanges_1 : decode cX6_randomChanges 1 = .ok (.iconst 1, 1) := by decide +kernel
theorem dX6_randomChanges_2 : decode cX6_randomChanges 2 = .ok (.if_icmp .lt 9, 3) := by decide +kernel
theorem dX6_randomChanges_5 : decode cX6_randomChanges 5 = .ok (.iload_n 3, 1) := by decide +kernel
theorem dX6_randomChanges_6 : decode cX6_randomChanges 6 = .ok (.bipush 60, 2) := by decide +kernel
theorem dX6_randomChanges_8 : decode cX6_randomChanges 8 = .ok (.if_icmp .le 6, 3) := by decide +kernel
theorem dX6_randomChanges_11 : decode cX6_randomChanges 11 = .ok (.bipush (-2), 2) := by decide +kernel
theorem dX6_randomChanges_13 : decode cX6_randomChanges 13 = .ok (.ireturn, 1) := by decide +kernel
theorem dX6_randomChanges_14 : decode cX6_randomChanges 14 = .ok (.aload_n 0, 1) := by decide +kernel
theorem dX6_randomChanges_15 : decode cX6_randomChanges 15 = .ok (.getfield 25, 3) := by decide +kernel
theorem dX6_randomChanges_18 : decode cX6_randomChanges 18 = .ok (.aload_n 0, 1) := by decide +kernel
theorem dX6_randomChanges_19 : decode cX6_randomChanges 19 = .ok (.getfield 10, 3) := by decide +kernel
theorem dX6_randomChanges_22 : decode cX6_randomChanges 22 = .ok (.invokevirtual 82, 3) := by decide +kernel
theorem dX6_randomChanges_25 : decode cX6_randomChanges 25 = .ok (.lload_n 1, 1) := by decide +kernel
theorem dX6_randomChanges_26 : decode cX6_randomChanges 26 = .ok (.lstore 4, 2) := by decide +kernel
theorem dX6_randomChanges_28 : decode cX6_randomChanges 28 = .ok (.iconst 0, 1) := by decide +kernel
theorem dX6_randomChanges_29 : decode cX6_randomChanges 29 = .ok (.istore 6, 2) := by decide +kernel
theorem dX6_randomChanges_31 : decode cX6_randomChanges 31 = .ok (.iconst 0, 1) := by decide +kernel
theorem dX6_randomChanges_32 : decode cX6_randomChanges 32 = .ok (.istore 7, 2) := by decide +kernel
theorem dX6_randomChanges_34 : decode cX6_randomChanges 34 = .ok (.iload 7, 2) := by decide +kernel
theorem dX6_randomChanges_36 : decode cX6_randomChanges 36 = .ok (.iload_n 3, 1) := by decide +kernel
theorem dX6_randomChanges_37 : decode cX6_randomChanges 37 = .ok (.if_icmp .ge 51, 3) := by decide +kernel
theorem dX6_randomChanges_40 : decode cX6_randomChanges 40 = .ok (.lload 4, 2) := by decide +kernel
theorem dX6_randomChanges_42 : decode cX6_randomChanges 42 = .ok (.ldc2_w 224, 3) := by decide +kernel
theorem dX6_randomChanges_45 : decode cX6_randomChanges 45 = .ok (.lmul, 1) := by decide +kernel
theorem dX6_randomChanges_46 : decode cX6_randomChanges 46 = .ok (.ldc2_w 226, 3) := by decide +kernel
theorem dX6_randomChanges_49 : decode cX6_randomChanges 49 = .ok (.ladd, 1) := by decide +kernel
theorem dX6_randomChanges_50 : decode cX6_randomChanges 50 = .ok (.lstore 4, 2) := by decide +kernel
theorem dX6_randomChanges_52 : decode cX6_randomChanges 52 = .ok (.aload_n 0, 1) := by decide +kernel
theorem dX6_randomChanges_53 : decode cX6_randomChanges 53 = .ok (.lload 4, 2) := by decide +kernel
theorem dX6_randomChanges_55 : decode cX6_randomChanges 55 = .ok (.bipush 33, 2) := by decide +kernel
theorem dX6_randomChanges_57 : decode cX6_randomChanges 57 = .ok (.lushr, 1) := by decide +kernel
theorem dX6_randomChanges_58 : decode cX6_randomChanges 58 = .ok (.l2i, 1) := by decide +kernel
theorem dX6_randomChanges_59 : decode cX6_randomChanges 59 = .ok (.invokevirtual 228, 3) := by decide +kernel
theorem dX6_randomChanges_62 : decode cX6_randomChanges 62 = .ok (.aload_n 0, 1) := by decide +kernel
theorem dX6_randomChanges_63 : decode cX6_randomChanges 63 = .ok (.getfield 28, 3) := by decide +kernel
theorem dX6_randomChanges_66 : decode cX6_randomChanges 66 = .ok (.invokevirtual 112, 3) := by decide +kernel
theorem dX6_randomChanges_69 : decode cX6_randomChanges 69 = .ok (.iload 6, 2) := by decide +kernel
theorem dX6_randomChanges_71 : decode cX6_randomChanges 71 = .ok (.aload_n 0, 1) := by decide +kernel
theorem dX6_randomChanges_72 : decode cX6_randomChanges 72 = .ok (.getfield 28, 3) := by decide +kernel
theorem dX6_randomChanges_75 : decode cX6_randomChanges 75 = .ok (.iconst 0, 1) := by decide +kernel
theorem dX6_randomChanges_76 : decode cX6_randomChanges 76 = .ok (.invokevirtual 155, 3) := by decide +kernel
theorem dX6_randomChanges_79 : decode cX6_randomChanges 79 = .ok (.iadd, 1) := by decide +kernel
theorem dX6_randomChanges_80 : decode cX6_randomChanges 80 = .ok (.istore 6, 2) := by decide +kernel
theorem dX6_randomChanges_82 : decode cX6_randomChanges 82 = .ok (.iinc 7 1, 3) := by decide +kernel
theorem dX6_randomChanges_85 : decode cX6_randomChanges 85 = .ok (.goto (-51), 3) := by decide +kernel
theorem dX6_randomChanges_88 : decode cX6_randomChanges 88 = .ok (.iload 6, 2) := by decide +kernel
theorem dX6_randomChanges_90 : decode cX6_randomChanges 90 = .ok (.ireturn, 1) := by decide +kernel
theorem dX6_changeTrial_0 : decode cX6_changeTrial 0 = .ok (.aload_n 0, 1) := by decide +kernel
theorem dX6_changeTrial_1 : decode cX6_changeTrial 1 = .ok (.getfield 25, 3) := by decide +kernel
theorem dX6_changeTrial_4 : decode cX6_changeTrial 4 = .ok (.invokevirtual 232, 3) := by decide +kernel
theorem dX6_changeTrial_7 : decode cX6_changeTrial 7 = .ok (.istore_n 2, 1) := by decide +kernel
theorem dX6_changeTrial_8 : decode cX6_changeTrial 8 = .ok (.iload_n 2, 1) := by decide +kernel
theorem dX6_changeTrial_9 : decode cX6_changeTrial 9 = .ok (.iconst 1, 1) := by decide +kernel
theorem dX6_changeTrial_10 : decode cX6_changeTrial 10 = .ok (.if_icmp .ge 4, 3) := by decide +kernel
theorem dX6_changeTrial_13 : decode cX6_changeTrial 13 = .ok (.return_, 1) := by decide +kernel
theorem dX6_changeTrial_14 : decode cX6_changeTrial 14 = .ok (.iload_n 1, 1) := by decide +kernel
theorem dX6_changeTrial_15 : decode cX6_changeTrial 15 = .ok (.iload_n 2, 1) := by decide +kernel
theorem dX6_changeTrial_16 : decode cX6_changeTrial 16 = .ok (.irem, 1) := by decide +kernel
theorem dX6_changeTrial_17 : decode cX6_changeTrial 17 = .ok (.istore_n 3, 1) := by decide +kernel
theorem dX6_changeTrial_18 : decode cX6_changeTrial 18 = .ok (.iload_n 1, 1) := by decide +kernel
theorem dX6_changeTrial_19 : decode cX6_changeTrial 19 = .ok (.bipush 16, 2) := by decide +kernel
theorem dX6_changeTrial_21 : decode cX6_changeTrial 21 = .ok (.idiv, 1) := by decide +kernel
theorem dX6_changeTrial_22 : decode cX6_changeTrial 22 = .ok (.iload_n 2, 1) := by decide +kernel
theorem dX6_changeTrial_23 : decode cX6_changeTrial 23 = .ok (.irem, 1) := by decide +kernel
theorem dX6_changeTrial_24 : decode cX6_changeTrial 24 = .ok (.istore 4, 2) := by decide +kernel
theorem dX6_changeTrial_26 : decode cX6_changeTrial 26 = .ok (.iload_n 1, 1) := by decide +kernel
theorem dX6_changeTrial_27 : decode cX6_changeTrial 27 = .ok (.sipush 256, 3) := by decide +kernel
theorem dX6_changeTrial_30 : decode cX6_changeTrial 30 = .ok (.idiv, 1) := by decide +kernel
theorem dX6_changeTrial_31 : decode cX6_changeTrial 31 = .ok (.bipush 99, 2) := by decide +kernel
theorem dX6_changeTrial_33 : decode cX6_changeTrial 33 = .ok (.irem, 1) := by decide +kernel
theorem dX6_changeTrial_34 : decode cX6_changeTrial 34 = .ok (.iconst 1, 1) := by decide +kernel
theorem dX6_changeTrial_35 : decode cX6_changeTrial 35 = .ok (.iadd, 1) := by decide +kernel
theorem dX6_changeTrial_36 : decode cX6_changeTrial 36 = .ok (.istore 5, 2) := by decide +kernel
theorem dX6_changeTrial_38 : decode cX6_changeTrial 38 = .ok (.aload_n 0, 1) := by decide +kernel
theorem dX6_changeTrial_39 : decode cX6_changeTrial 39 = .ok (.getfield 25, 3) := by decide +kernel
theorem dX6_changeTrial_42 : decode cX6_changeTrial 42 = .ok (.iload_n 3, 1) := by decide +kernel
theorem dX6_changeTrial_43 : decode cX6_changeTrial 43 = .ok (.iload 4, 2) := by decide +kernel
theorem dX6_changeTrial_45 : decode cX6_changeTrial 45 = .ok (.invokevirtual 105, 3) := by decide +kernel
theorem dX6_changeTrial_48 : decode cX6_changeTrial 48 = .ok (.ifCond .eq 29, 3) := by decide +kernel
theorem dX6_changeTrial_51 : decode cX6_changeTrial 51 = .ok (.aload_n 0, 1) := by decide +kernel
theorem dX6_changeTrial_52 : decode cX6_changeTrial 52 = .ok (.getfield 25, 3) := by decide +kernel
theorem dX6_changeTrial_55 : decode cX6_changeTrial 55 = .ok (.iload_n 3, 1) := by decide +kernel
theorem dX6_changeTrial_56 : decode cX6_changeTrial 56 = .ok (.iload 4, 2) := by decide +kernel
theorem dX6_changeTrial_58 : decode cX6_changeTrial 58 = .ok (.iload 5, 2) := by decide +kernel
theorem dX6_changeTrial_60 : decode cX6_changeTrial 60 = .ok (.iconst 2, 1) := by decide +kernel
theorem dX6_changeTrial_61 : decode cX6_changeTrial 61 = .ok (.irem, 1) := by decide +kernel
theorem dX6_changeTrial_62 : decode cX6_changeTrial 62 = .ok (.ifCond .ne 7, 3) := by decide +kernel
theorem dX6_changeTrial_65 : decode cX6_changeTrial 65 = .ok (.iconst 0, 1) := by decide +kernel
theorem dX6_changeTrial_66 : decode cX6_changeTrial 66 = .ok (.goto 5, 3) := by decide +kernel
theorem dX6_changeTrial_69 : decode cX6_changeTrial 69 = .ok (.iload 5, 2) := by decide +kernel
theorem dX6_changeTrial_71 : decode cX6_changeTrial 71 = .ok (.invokevirtual 125, 3) := by decide +kernel
theorem dX6_changeTrial_74 : decode cX6_changeTrial 74 = .ok (.goto 34, 3) := by decide +kernel
theorem dX6_changeTrial_77 : decode cX6_changeTrial 77 = .ok (.aload_n 0, 1) := by decide +kernel
theorem dX6_changeTrial_78 : decode cX6_changeTrial 78 = .ok (.getfield 25, 3) := by decide +kernel
theorem dX6_changeTrial_81 : decode cX6_changeTrial 81 = .ok (.aload_n 0, 1) := by decide +kernel
theorem dX6_changeTrial_82 : decode cX6_changeTrial 82 = .ok (.getfield 28, 3) := by decide +kernel
theorem dX6_changeTrial_85 : decode cX6_changeTrial 85 = .ok (.iload_n 3, 1) := by decide +kernel
theorem dX6_changeTrial_86 : decode cX6_changeTrial 86 = .ok (.iload 4, 2) := by decide +kernel
theorem dX6_changeTrial_88 : decode cX6_changeTrial 88 = .ok (.iload 5, 2) := by decide +kernel
theorem dX6_changeTrial_90 : decode cX6_changeTrial 90 = .ok (.invokestatic 118, 3) := by decide +kernel
theorem dX6_changeTrial_93 : decode cX6_changeTrial 93 = .ok (.ifCond .ne 15, 3) := by decide +kernel
theorem dX6_changeTrial_96 : decode cX6_changeTrial 96 = .ok (.aload_n 0, 1) := by decide +kernel
theorem dX6_changeTrial_97 : decode cX6_changeTrial 97 = .ok (.getfield 25, 3) := by decide +kernel
theorem dX6_changeTrial_100 : decode cX6_changeTrial 100 = .ok (.iload_n 3, 1) := by decide +kernel
theorem dX6_changeTrial_101 : decode cX6_changeTrial 101 = .ok (.iload 4, 2) := by decide +kernel
theorem dX6_changeTrial_103 : decode cX6_changeTrial 103 = .ok (.iload 5, 2) := by decide +kernel
theorem dX6_changeTrial_105 : decode cX6_changeTrial 105 = .ok (.invokevirtual 125, 3) := by decide +kernel
theorem dX6_changeTrial_108 : decode cX6_changeTrial 108 = .ok (.return_, 1) := by decide +kernel
theorem dX6_save_0 : decode cX6_save 0 = .ok (.iload_n 1, 1) := by decide +kernel
theorem dX6_save_1 : decode cX6_save 1 = .ok (.ifCond .lt 8, 3) := by decide +kernel
theorem dX6_save_4 : decode cX6_save 4 = .ok (.iload_n 1, 1) := by decide +kernel
theorem dX6_save_5 : decode cX6_save 5 = .ok (.iconst 2, 1) := by decide +kernel
theorem dX6_save_6 : decode cX6_save 6 = .ok (.if_icmp .lt 5, 3) := by decide +kernel
theorem dX6_save_9 : decode cX6_save 9 = .ok (.iconst (-1), 1) := by decide +kernel
theorem dX6_save_10 : decode cX6_save 10 = .ok (.ireturn, 1) := by decide +kernel
theorem dX6_save_11 : decode cX6_save 11 = .ok (.aload_n 0, 1) := by decide +kernel
theorem dX6_save_12 : decode cX6_save 12 = .ok (.getfield 59, 3) := by decide +kernel
theorem dX6_save_15 : decode cX6_save 15 = .ok (.iload_n 1, 1) := by decide +kernel
theorem dX6_save_16 : decode cX6_save 16 = .ok (.aaload, 1) := by decide +kernel
theorem dX6_save_17 : decode cX6_save 17 = .ok (.aload_n 0, 1) := by decide +kernel
theorem dX6_save_18 : decode cX6_save 18 = .ok (.getfield 10, 3) := by decide +kernel
theorem dX6_save_21 : decode cX6_save 21 = .ok (.invokevirtual 82, 3) := by decide +kernel
theorem dX6_save_24 : decode cX6_save 24 = .ok (.aload_n 0, 1) := by decide +kernel
theorem dX6_save_25 : decode cX6_save 25 = .ok (.getfield 63, 3) := by decide +kernel
theorem dX6_save_28 : decode cX6_save 28 = .ok (.iload_n 1, 1) := by decide +kernel
theorem dX6_save_29 : decode cX6_save 29 = .ok (.iconst 1, 1) := by decide +kernel
theorem dX6_save_30 : decode cX6_save 30 = .ok (.bastore, 1) := by decide +kernel
theorem dX6_save_31 : decode cX6_save 31 = .ok (.aload_n 0, 1) := by decide +kernel
theorem dX6_save_32 : decode cX6_save 32 = .ok (.getfield 10, 3) := by decide +kernel
theorem dX6_save_35 : decode cX6_save 35 = .ok (.invokevirtual 91, 3) := by decide +kernel
theorem dX6_save_38 : decode cX6_save 38 = .ok (.ireturn, 1) := by decide +kernel
theorem dX6_restore_0 : decode cX6_restore 0 = .ok (.iload_n 1, 1) := by decide +kernel
theorem dX6_restore_1 : decode cX6_restore 1 = .ok (.ifCond .lt 8, 3) := by decide +kernel
theorem dX6_restore_4 : decode cX6_restore 4 = .ok (.iload_n 1, 1) := by decide +kernel
theorem dX6_restore_5 : decode cX6_restore 5 = .ok (.iconst 2, 1) := by decide +kernel
theorem dX6_restore_6 : decode cX6_restore 6 = .ok (.if_icmp .lt 5, 3) := by decide +kernel
theorem dX6_restore_9 : decode cX6_restore 9 = .ok (.iconst (-1), 1) := by decide +kernel
theorem dX6_restore_10 : decode cX6_restore 10 = .ok (.ireturn, 1) := by decide +kernel
theorem dX6_restore_11 : decode cX6_restore 11 = .ok (.aload_n 0, 1) := by decide +kernel
theorem dX6_restore_12 : decode cX6_restore 12 = .ok (.getfield 63, 3) := by decide +kernel
theorem dX6_restore_15 : decode cX6_restore 15 = .ok (.iload_n 1, 1) := by decide +kernel
theorem dX6_restore_16 : decode cX6_restore 16 = .ok (.baload, 1) := by decide +kernel
theorem dX6_restore_17 : decode cX6_restore 17 = .ok (.ifCond .ne 6, 3) := by decide +kernel
theorem dX6_restore_20 : decode cX6_restore 20 = .ok (.bipush (-3), 2) := by decide +kernel
theorem dX6_restore_22 : decode cX6_restore 22 = .ok (.ireturn, 1) := by decide +kernel
theorem dX6_restore_23 : decode cX6_restore 23 = .ok (.aload_n 0, 1) := by decide +kernel
theorem dX6_restore_24 : decode cX6_restore 24 = .ok (.getfield 10, 3) := by decide +kernel
theorem dX6_restore_27 : decode cX6_restore 27 = .ok (.aload_n 0, 1) := by decide +kernel
theorem dX6_restore_28 : decode cX6_restore 28 = .ok (.getfield 59, 3) := by decide +kernel
theorem dX6_restore_31 : decode cX6_restore 31 = .ok (.iload_n 1, 1) := by decide +kernel
theorem dX6_restore_32 : decode cX6_restore 32 = .ok (.aaload, 1) := by decide +kernel
theorem dX6_restore_33 : decode cX6_restore 33 = .ok (.invokevirtual 82, 3) := by decide +kernel
theorem dX6_restore_36 : decode cX6_restore 36 = .ok (.aload_n 0, 1) := by decide +kernel
theorem dX6_restore_37 : decode cX6_restore 37 = .ok (.getfield 48, 3) := by decide +kernel
theorem dX6_restore_40 : decode cX6_restore 40 = .ok (.invokevirtual 85, 3) := by decide +kernel
theorem dX6_restore_43 : decode cX6_restore 43 = .ok (.aload_n 0, 1) := by decide +kernel
theorem dX6_restore_44 : decode cX6_restore 44 = .ok (.getfield 10, 3) := by decide +kernel
theorem dX6_restore_47 : decode cX6_restore 47 = .ok (.invokevirtual 91, 3) := by decide +kernel
theorem dX6_restore_50 : decode cX6_restore 50 = .ok (.ireturn, 1) := by decide +kernel
end
section
theorem dX7_init_0 : decode cX7_init 0 = .ok (.aload_n 0, 1) := by decide +kernel
theorem dX7_init_1 : decode cX7_init 1 = .ok (.invokespecial 1, 3) := by decide +kernel
theorem dX7_init_4 : decode cX7_init 4 = .ok (.aload_n 0, 1) := by decide +kernel
theorem dX7_init_5 : decode cX7_init 5 = .ok (.bipush 80, 2) := by decide +kernel
theorem dX7_init_7 : decode cX7_init 7 = .ok (.newarray .int, 2) := by decide +kernel
theorem dX7_init_9 : decode cX7_init 9 = .ok (.putfield 7, 3) := by decide +kernel
theorem dX7_init_12 : decode cX7_init 12 = .ok (.aload_n 0, 1) := by decide +kernel
theorem dX7_init_13 : decode cX7_init 13 = .ok (.sipush 156, 3) := by decide +kernel
theorem dX7_init_16 : decode cX7_init 16 = .ok (.newarray .int, 2) := by decide +kernel
theorem dX7_init_18 : decode cX7_init 18 = .ok (.putfield 13, 3) := by decide +kernel
theorem dX7_init_21 : decode cX7_init 21 = .ok (.aload_n 0, 1) := by decide +kernel
theorem dX7_init_22 : decode cX7_init 22 = .ok (.sipush 156, 3) := by decide +kernel
theorem dX7_init_25 : decode cX7_init 25 = .ok (.newarray .int, 2) := by decide +kernel
theorem dX7_init_27 : decode cX7_init 27 = .ok (.putfield 16, 3) := by decide +kernel
theorem dX7_init_30 : decode cX7_init 30 = .ok (.aload_n 0, 1) := by decide +kernel
theorem dX7_init_31 : decode cX7_init 31 = .ok (.sipush 156, 3) := by decide +kernel
theorem dX7_init_34 : decode cX7_init 34 = .ok (.newarray .int, 2) := by decide +kernel
theorem dX7_init_36 : decode cX7_init 36 = .ok (.putfield 19, 3) := by decide +kernel
theorem dX7_init_39 : decode cX7_init 39 = .ok (.aload_n 0, 1) := by decide +kernel
theorem dX7_init_40 : decode cX7_init 40 = .ok (.sipush 2184, 3) := by decide +kernel
theorem dX7_init_43 : decode cX7_init 43 = .ok (.newarray .int, 2) := by decide +kernel
theorem dX7_init_45 : decode cX7_init 45 = .ok (.putfield 22, 3) := by decide +kernel
theorem dX7_init_48 : decode cX7_init 48 = .ok (.aload_n 0, 1) := by decide +kernel
theorem dX7_init_49 : decode cX7_init 49 = .ok (.sipush 312, 3) := by decide +kernel
theorem dX7_init_52 : decode cX7_init 52 = .ok (.newarray .int, 2) := by decide +kernel
theorem dX7_init_54 : decode cX7_init 54 = .ok (.putfield 25, 3) := by decide +kernel
theorem dX7_init_57 : decode cX7_init 57 = .ok (.aload_n 0, 1) := by decide +kernel
theorem dX7_init_58 : decode cX7_init 58 = .ok (.iconst 2, 1) := by decide +kernel
theorem dX7_init_59 : decode cX7_init 59 = .ok (.newarray .boolean, 2) := by decide +kernel
theorem dX7_init_61 : decode cX7_init 61 = .ok (.putfield 28, 3) := by decide +kernel
theorem dX7_init_64 : decode cX7_init 64 = .ok (.aload_n 0, 1) := by decide +kernel
theorem dX7_init_65 : decode cX7_init 65 = .ok (.bipush 18, 2) := by decide +kernel
theorem dX7_init_67 : decode cX7_init 67 = .ok (.newarray .int, 2) := by decide +kernel
theorem dX7_init_69 : decode cX7_init 69 = .ok (.putfield 32, 3) := by decide +kernel
theorem dX7_init_72 : decode cX7_init 72 = .ok (.aload_n 0, 1) := by decide +kernel
theorem dX7_init_73 : decode cX7_init 73 = .ok (.bipush 12, 2) := by decide +kernel
theorem dX7_init_75 : decode cX7_init 75 = .ok (.newarray .int, 2) := by decide +kernel
theorem dX7_init_77 : decode cX7_init 77 = .ok (.putfield 35, 3) := by decide +kernel
theorem dX7_init_80 : decode cX7_init 80 = .ok (.aload_n 0, 1) := by decide +kernel
theorem dX7_init_81 : decode cX7_init 81 = .ok (.bipush 12, 2) := by decide +kernel
theorem dX7_init_83 : decode cX7_init 83 = .ok (.newarray .int, 2) := by decide +kernel
theorem dX7_init_85 : decode cX7_init 85 = .ok (.putfield 38, 3) := by decide +kernel
theorem dX7_init_88 : decode cX7_init 88 = .ok (.aload_n 0, 1) := by decide +kernel
theorem dX7_init_89 : decode cX7_init 89 = .ok (.bipush 12, 2) := by decide +kernel
theorem dX7_init_91 : decode cX7_init 91 = .ok (.newarray .int, 2) := by decide +kernel
theorem dX7_init_93 : decode cX7_init 93 = .ok (.putfield 41, 3) := by decide +kernel
theorem dX7_init_96 : decode cX7_init 96 = .ok (.aload_n 0, 1) := by decide +kernel
theorem dX7_init_97 : decode cX7_init 97 = .ok (.sipush 144, 3) := by decide +kernel
theorem dX7_init_100 : decode cX7_init 100 = .ok (.newarray .int, 2) := by decide +kernel
theorem dX7_init_102 : decode cX7_init 102 = .ok (.putfield 44, 3) := by decide +kernel
theorem dX7_init_105 : decode cX7_init 105 = .ok (.aload_n 0, 1) := by decide +kernel
theorem dX7_init_106 : decode cX7_init 106 = .ok (.bipush 12, 2) := by decide +kernel
theorem dX7_init_108 : decode cX7_init 108 = .ok (.newarray .boolean, 2) := by decide +kernel
theorem dX7_init_110 : decode cX7_init 110 = .ok (.putfield 47, 3) := by decide +kernel
theorem dX7_init_113 : decode cX7_init 113 = .ok (.aload_n 0, 1) := by decide +kernel
theorem dX7_init_114 : decode cX7_init 114 = .ok (.bipush 12, 2) := by decide +kernel
theorem dX7_init_116 : decode cX7_init 116 = .ok (.newarray .boolean, 2) := by decide +kernel
theorem dX7_init_118 : decode cX7_init 118 = .ok (.putfield 50, 3) := by decide +kernel
theorem dX7_init_121 : decode cX7_init 121 = .ok (.aload_n 0, 1) := by decide +kernel
theorem dX7_init_122 : decode cX7_init 122 = .ok (.bipush 12, 2) := by decide +kernel
theorem dX7_init_124 : decode cX7_init 124 = .ok (.newarray .int, 2) := by decide +kernel
theorem dX7_init_126 : decode cX7_init 126 = .ok (.putfield 53, 3) := by decide +kernel
theorem dX7_init_129 : decode cX7_init 129 = .ok (.aload_n 0, 1) := by decide +kernel
theorem dX7_init_130 : decode cX7_init 130 = .ok (.bipush 12, 2) := by decide +kernel
theorem dX7_init_132 : decode cX7_init 132 = .ok (.putfield 56, 3) := by decide +kernel
theorem dX7_init_135 : decode cX7_init 135 = .ok (.iconst 0, 1) := by decide +kernel
theorem dX7_init_136 : decode cX7_init 136 = .ok (.istore_n 1, 1) := by decide +kernel
theorem dX7_init_137 : decode cX7_init 137 = .ok (.iload_n 1, 1) := by decide +kernel
theorem dX7_init_138 : decode cX7_init 138 = .ok (.bipush 12, 2) := by decide +kernel
theorem dX7_init_140 : decode cX7_init 140 = .ok (.if_icmp .ge 16, 3) := by decide +kernel
theorem dX7_init_143 : decode cX7_init 143 = .ok (.aload_n 0, 1) := by decide +kernel
theorem dX7_init_144 : decode cX7_init 144 = .ok (.getfield 13, 3) := by decide +kernel
theorem dX7_init_147 : decode cX7_init 147 = .ok (.iload_n 1, 1) := by decide +kernel
theorem dX7_init_148 : decode cX7_init 148 = .ok (.iconst 1, 1) := by decide +kernel
theorem dX7_init_149 : decode cX7_init 149 = .ok (.iastore, 1) := by decide +kernel
theorem dX7_init_150 : decode cX7_init 150 = .ok (.iinc 1 1, 3) := by decide +kernel
theorem dX7_init_153 : decode cX7_init 153 = .ok (.goto (-16), 3) := by decide +kernel
theorem dX7_init_156 : decode cX7_init 156 = .ok (.return_, 1) := by decide +kernel
theorem dX7_in_0 : decode cX7_in 0 = .ok (.lload_n 0, 1) := by decide +kernel
theorem dX7_in_1 : decode cX7_in 1 = .ok (.lload_n 2, 1) := by decide +kernel
theorem dX7_in_2 : decode cX7_in 2 = .ok (.lcmp, 1) := by decide +kernel
theorem dX7_in_3 : decode cX7_in 3 = .ok (.ifCond .lt 14, 3) := by decide +kernel
theorem dX7_in_6 : decode cX7_in 6 = .ok (.lload_n 0, 1) := by decide +kernel
theorem dX7_in_7 : decode cX7_in 7 = .ok (.lload 4, 2) := by decide +kernel
theorem dX7_in_9 : decode cX7_in 9 = .ok (.lcmp, 1) := by decide +kernel
theorem dX7_in_10 : decode cX7_in 10 = .ok (.ifCond .gt 7, 3) := by decide +kernel
theorem dX7_in_13 : decode cX7_in 13 = .ok (.iconst 1, 1) := by decide +kernel
theorem dX7_in_14 : decode cX7_in 14 = .ok (.goto 4, 3) := by decide +kernel
theorem dX7_in_17 : decode cX7_in 17 = .ok (.iconst 0, 1) := by decide +kernel
theorem dX7_in_18 : decode cX7_in 18 = .ok (.ireturn, 1) := by decide +kernel
theorem dX7_copy_0 : decode cX7_copy 0 = .ok (.iconst 0, 1) := by decide +kernel
theorem dX7_copy_1 : decode cX7_copy 1 = .ok (.istore_n 2, 1) := by decide +kernel
theorem dX7_copy_2 : decode cX7_copy 2 = .ok (.iload_n 2, 1) := by decide +kernel
theorem dX7_copy_3 : decode cX7_copy 3 = .ok (.sipush 156, 3) := by decide +kernel
theorem dX7_copy_6 : decode cX7_copy 6 = .ok (.if_icmp .ge 15, 3) := by decide +kernel
theorem dX7_copy_9 : decode cX7_copy 9 = .ok (.aload_n 1, 1) := by decide +kernel
theorem dX7_copy_10 : decode cX7_copy 10 = .ok (.iload_n 2, 1) := by decide +kernel
theorem dX7_copy_11 : decode cX7_copy 11 = .ok (.aload_n 0, 1) := by decide +kernel
theorem dX7_copy_12 : decode cX7_copy 12 = .ok (.iload_n 2, 1) := by decide +kernel
theorem dX7_copy_13 : decode cX7_copy 13 = .ok (.iaload, 1) := by decide +kernel
theorem dX7_copy_14 : decode cX7_copy 14 = .ok (.iastore, 1) := by decide +kernel
theorem dX7_copy_15 : decode cX7_copy 15 = .ok (.iinc 2 1, 3) := by decide +kernel
theorem dX7_copy_18 : decode cX7_copy 18 = .ok (.goto (-16), 3) := by decide +kernel
theorem dX7_copy_21 : decode cX7_copy 21 = .ok (.return_, 1) := by decide +kernel
theorem dX7_at_0 : decode cX7_at 0 = .ok (.bipush 12, 2) := by decide +kernel
theorem dX7_at_2 : decode cX7_at 2 = .ok (.bipush 12, 2) := by decide +kernel
theorem dX7_at_4 : decode cX7_at 4 = .ok (.iload_n 0, 1) := by decide +kernel
theorem dX7_at_5 : decode cX7_at 5 = .ok (.imul, 1) := by decide +kernel
theorem dX7_at_6 : decode cX7_at 6 = .ok (.iadd, 1) := by decide +kernel
theorem dX7_at_7 : decode cX7_at 7 = .ok (.iload_n 1, 1) := by decide +kernel
theorem dX7_at_8 : decode cX7_at 8 = .ok (.iadd, 1) := by decide +kernel
theorem dX7_at_9 : decode cX7_at 9 = .ok (.ireturn, 1) := by decide +kernel
theorem dX7_isVertex_0 : decode cX7_isVertex 0 = .ok (.iload_n 1, 1) := by decide +kernel
theorem dX7_isVertex_1 : decode cX7_isVertex 1 = .ok (.i2l, 1) := by decide +kernel
theorem dX7_isVertex_2 : decode cX7_isVertex 2 = .ok (.lconst 0, 1) := by decide +kernel
theorem dX7_isVertex_3 : decode cX7_isVertex 3 = .ok (.aload_n 0, 1) := by decide +kernel
theorem dX7_isVertex_4 : decode cX7_isVertex 4 = .ok (.getfield 56, 3) := by decide +kernel
theorem dX7_isVertex_7 : decode cX7_isVertex 7 = .ok (.iconst 1, 1) := by decide +kernel
theorem dX7_isVertex_8 : decode cX7_isVertex 8 = .ok (.isub, 1) := by decide +kernel
theorem dX7_isVertex_9 : decode cX7_isVertex 9 = .ok (.i2l, 1) := by decide +kernel
theorem dX7_isVertex_10 : decode cX7_isVertex 10 = .ok (.invokestatic 60, 3) := by decide +kernel
theorem dX7_isVertex_13 : decode cX7_isVertex 13 = .ok (.ireturn, 1) := by decide +kernel
theorem dX7_edgesOf_0 : decode cX7_edgesOf 0 = .ok (.iconst 0, 1) := by decide +kernel
theorem dX7_edgesOf_1 : decode cX7_edgesOf 1 = .ok (.istore_n 1, 1) := by decide +kernel
theorem dX7_edgesOf_2 : decode cX7_edgesOf 2 = .ok (.bipush 12, 2) := by decide +kernel
theorem dX7_edgesOf_4 : decode cX7_edgesOf 4 = .ok (.istore_n 2, 1) := by decide +kernel
theorem dX7_edgesOf_5 : decode cX7_edgesOf 5 = .ok (.iload_n 2, 1) := by decide +kernel
theorem dX7_edgesOf_6 : decode cX7_edgesOf 6 = .ok (.sipush 156, 3) := by decide +kernel
theorem dX7_edgesOf_9 : decode cX7_edgesOf 9 = .ok (.if_icmp .ge 23, 3) := by decide +kernel
theorem dX7_edgesOf_12 : decode cX7_edgesOf 12 = .ok (.iload_n 1, 1) := by decide +kernel
theorem dX7_edgesOf_13 : decode cX7_edgesOf 13 = .ok (.aload_n 0, 1) := by decide +kernel
theorem dX7_edgesOf_14 : decode cX7_edgesOf 14 = .ok (.iload_n 2, 1) := by decide +kernel
theorem dX7_edgesOf_15 : decode cX7_edgesOf 15 = .ok (.iaload, 1) := by decide +kernel
theorem dX7_edgesOf_16 : decode cX7_edgesOf 16 = .ok (.ifCond .le 7, 3) := by decide +kernel
theorem dX7_edgesOf_19 : decode cX7_edgesOf 19 = .ok (.iconst 1, 1) := by decide +kernel
theorem dX7_edgesOf_20 : decode cX7_edgesOf 20 = .ok (.goto 4, 3) := by decide +kernel
theorem dX7_edgesOf_23 : decode cX7_edgesOf 23 = .ok (.iconst 0, 1) := by decide +kernel
theorem dX7_edgesOf_24 : decode cX7_edgesOf 24 = .ok (.iadd, 1) := by decide +kernel
theorem dX7_edgesOf_25 : decode cX7_edgesOf 25 = .ok (.istore_n 1, 1) := by decide +kernel
theorem dX7_edgesOf_26 : decode cX7_edgesOf 26 = .ok (.iinc 2 1, 3) := by decide +kernel
theorem dX7_edgesOf_29 : decode cX7_edgesOf 29 = .ok (.goto (-24), 3) := by decide +kernel
theorem dX7_edgesOf_32 : decode cX7_edgesOf 32 = .ok (.iload_n 1, 1) := by decide +kernel
theorem dX7_edgesOf_33 : decode cX7_edgesOf 33 = .ok (.iconst 2, 1) := by decide +kernel
theorem dX7_edgesOf_34 : decode cX7_edgesOf 34 = .ok (.idiv, 1) := by decide +kernel
theorem dX7_edgesOf_35 : decode cX7_edgesOf 35 = .ok (.ireturn, 1) := by decide +kernel
theorem dX7_join_0 : decode cX7_join 0 = .ok (.aload_n 0, 1) := by decide +kernel
theorem dX7_join_1 : decode cX7_join 1 = .ok (.iload_n 1, 1) := by decide +kernel
theorem dX7_join_2 : decode cX7_join 2 = .ok (.iload_n 2, 1) := by decide +kernel
theorem dX7_join_3 : decode cX7_join 3 = .ok (.invokestatic 64, 3) := by decide +kernel
theorem dX7_join_6 : decode cX7_join 6 = .ok (.iload_n 3, 1) := by decide +kernel
theorem dX7_join_7 : decode cX7_join 7 = .ok (.iastore, 1) := by decide +kernel
theorem dX7_join_8 : decode cX7_join 8 = .ok (.aload_n 0, 1) := by decide +kernel
theorem dX7_join_9 : decode cX7_join 9 = .ok (.iload_n 2, 1) := by decide +kernel
theorem dX7_join_10 : decode cX7_join 10 = .ok (.iload_n 1, 1) := by decide +kernel
theorem dX7_join_11 : decode cX7_join 11 = .ok (.invokestatic 64, 3) := by decide +kernel
theorem dX7_join_14 : decode cX7_join 14 = .ok (.iload_n 3, 1) := by decide +kernel
theorem dX7_join_15 : decode cX7_join 15 = .ok (.iastore, 1) := by decide +kernel
theorem dX7_join_16 : decode cX7_join 16 = .ok (.return_, 1) := by decide +kernel
theorem dX7_layFar_0 : decode cX7_layFar 0 = .ok (.iconst 0, 1) := by decide +kernel
theorem dX7_layFar_1 : decode cX7_layFar 1 = .ok (.istore_n 3, 1) := by decide +kernel
theorem dX7_layFar_2 : decode cX7_layFar 2 = .ok (.iload_n 3, 1) := by decide +kernel
theorem dX7_layFar_3 : decode cX7_layFar 3 = .ok (.bipush 12, 2) := by decide +kernel
theorem dX7_layFar_5 : decode cX7_layFar 5 = .ok (.if_icmp .ge 43, 3) := by decide +kernel
theorem dX7_layFar_8 : decode cX7_layFar 8 = .ok (.aload_n 0, 1) := by decide +kernel
theorem dX7_layFar_9 : decode cX7_layFar 9 = .ok (.getfield 35, 3) := by decide +kernel
theorem dX7_layFar_12 : decode cX7_layFar 12 = .ok (.iload_n 3, 1) := by decide +kernel
theorem dX7_layFar_13 : decode cX7_layFar 13 = .ok (.iload_n 3, 1) := by decide +kernel
theorem dX7_layFar_14 : decode cX7_layFar 14 = .ok (.iload_n 2, 1) := by decide +kernel
theorem dX7_layFar_15 : decode cX7_layFar 15 = .ok (.if_icmp .ne 7, 3) := by decide +kernel
theorem dX7_layFar_18 : decode cX7_layFar 18 = .ok (.iconst 0, 1) := by decide +kernel
theorem dX7_layFar_19 : decode cX7_layFar 19 = .ok (.goto 5, 3) := by decide +kernel
theorem dX7_layFar_22 : decode cX7_layFar 22 = .ok (.bipush (-9), 2) := by decide +kernel
theorem dX7_layFar_24 : decode cX7_layFar 24 = .ok (.iastore, 1) := by decide +kernel
theorem dX7_layFar_25 : decode cX7_layFar 25 = .ok (.aload_n 0, 1) := by decide +kernel
theorem dX7_layFar_26 : decode cX7_layFar 26 = .ok (.getfield 38, 3) := by decide +kernel
theorem dX7_layFar_29 : decode cX7_layFar 29 = .ok (.iload_n 3, 1) := by decide +kernel
theorem dX7_layFar_30 : decode cX7_layFar 30 = .ok (.iload_n 3, 1) := by decide +kernel
theorem dX7_layFar_31 : decode cX7_layFar 31 = .ok (.iload_n 2, 1) := by decide +kernel
theorem dX7_layFar_32 : decode cX7_layFar 32 = .ok (.if_icmp .ne 7, 3) := by decide +kernel
theorem dX7_layFar_35 : decode cX7_layFar 35 = .ok (.iconst 0, 1) := by decide +kernel
theorem dX7_layFar_36 : decode cX7_layFar 36 = .ok (.goto 5, 3) := by decide +kernel
theorem dX7_layFar_39 : decode cX7_layFar 39 = .ok (.bipush (-9), 2) := by decide +kernel
theorem dX7_layFar_41 : decode cX7_layFar 41 = .ok (.iastore, 1) := by decide +kernel
theorem dX7_layFar_42 : decode cX7_layFar 42 = .ok (.iinc 3 1, 3) := by decide +kernel
theorem dX7_layFar_45 : decode cX7_layFar 45 = .ok (.goto (-43), 3) := by decide +kernel
theorem dX7_layFar_48 : decode cX7_layFar 48 = .ok (.iconst 1, 1) := by decide +kernel
theorem dX7_layFar_49 : decode cX7_layFar 49 = .ok (.istore_n 3, 1) := by decide +kernel
theorem dX7_layFar_50 : decode cX7_layFar 50 = .ok (.iload_n 3, 1) := by decide +kernel
theorem dX7_layFar_51 : decode cX7_layFar 51 = .ok (.ifCond .eq 118, 3) := by decide +kernel
theorem dX7_layFar_54 : decode cX7_layFar 54 = .ok (.iconst 0, 1) := by decide +kernel
theorem dX7_layFar_55 : decode cX7_layFar 55 = .ok (.istore_n 3, 1) := by decide +kernel
theorem dX7_layFar_56 : decode cX7_layFar 56 = .ok (.iconst 0, 1) := by decide +kernel
theorem dX7_layFar_57 : decode cX7_layFar 57 = .ok (.istore 4, 2) := by decide +kernel
theorem dX7_layFar_59 : decode cX7_layFar 59 = .ok (.iload 4, 2) := by decide +kernel
theorem dX7_layFar_61 : decode cX7_layFar 61 = .ok (.bipush 12, 2) := by decide +kernel
theorem dX7_layFar_63 : decode cX7_layFar 63 = .ok (.if_icmp .ge 103, 3) := by decide +kernel
theorem dX7_layFar_66 : decode cX7_layFar 66 = .ok (.iconst 0, 1) := by decide +kernel
theorem dX7_layFar_67 : decode cX7_layFar 67 = .ok (.istore 5, 2) := by decide +kernel
theorem dX7_layFar_69 : decode cX7_layFar 69 = .ok (.iload 5, 2) := by decide +kernel
theorem dX7_layFar_71 : decode cX7_layFar 71 = .ok (.bipush 12, 2) := by decide +kernel
theorem dX7_layFar_73 : decode cX7_layFar 73 = .ok (.if_icmp .ge 87, 3) := by decide +kernel
theorem dX7_layFar_76 : decode cX7_layFar 76 = .ok (.aload_n 0, 1) := by decide +kernel
theorem dX7_layFar_77 : decode cX7_layFar 77 = .ok (.getfield 35, 3) := by decide +kernel
theorem dX7_layFar_80 : decode cX7_layFar 80 = .ok (.iload 4, 2) := by decide +kernel
theorem dX7_layFar_82 : decode cX7_layFar 82 = .ok (.iaload, 1) := by decide +kernel
theorem dX7_layFar_83 : decode cX7_layFar 83 = .ok (.bipush (-9), 2) := by decide +kernel
theorem dX7_layFar_85 : decode cX7_layFar 85 = .ok (.if_icmp .eq 75, 3) := by decide +kernel
theorem dX7_layFar_88 : decode cX7_layFar 88 = .ok (.aload_n 1, 1) := by decide +kernel
theorem dX7_layFar_89 : decode cX7_layFar 89 = .ok (.iload 4, 2) := by decide +kernel
theorem dX7_layFar_91 : decode cX7_layFar 91 = .ok (.iload 5, 2) := by decide +kernel
theorem dX7_layFar_93 : decode cX7_layFar 93 = .ok (.invokestatic 64, 3) := by decide +kernel
theorem dX7_layFar_96 : decode cX7_layFar 96 = .ok (.iaload, 1) := by decide +kernel
theorem dX7_layFar_97 : decode cX7_layFar 97 = .ok (.ifCond .le 57, 3) := by decide +kernel
theorem dX7_layFar_100 : decode cX7_layFar 100 = .ok (.aload_n 0, 1) := by decide +kernel
theorem dX7_layFar_101 : decode cX7_layFar 101 = .ok (.getfield 35, 3) := by decide +kernel
theorem dX7_layFar_104 : decode cX7_layFar 104 = .ok (.iload 5, 2) := by decide +kernel
theorem dX7_layFar_106 : decode cX7_layFar 106 = .ok (.iaload, 1) := by decide +kernel
theorem dX7_layFar_107 : decode cX7_layFar 107 = .ok (.bipush (-9), 2) := by decide +kernel
theorem dX7_layFar_109 : decode cX7_layFar 109 = .ok (.if_icmp .ne 45, 3) := by decide +kernel
theorem dX7_layFar_112 : decode cX7_layFar 112 = .ok (.aload_n 0, 1) := by decide +kernel
theorem dX7_layFar_113 : decode cX7_layFar 113 = .ok (.getfield 35, 3) := by decide +kernel
theorem dX7_layFar_116 : decode cX7_layFar 116 = .ok (.iload 5, 2) := by decide +kernel
theorem dX7_layFar_118 : decode cX7_layFar 118 = .ok (.aload_n 0, 1) := by decide +kernel
theorem dX7_layFar_119 : decode cX7_layFar 119 = .ok (.getfield 35, 3) := by decide +kernel
theorem dX7_layFar_122 : decode cX7_layFar 122 = .ok (.iload 4, 2) := by decide +kernel
theorem dX7_layFar_124 : decode cX7_layFar 124 = .ok (.iaload, 1) := by decide +kernel
theorem dX7_layFar_125 : decode cX7_layFar 125 = .ok (.aload_n 1, 1) := by decide +kernel
theorem dX7_layFar_126 : decode cX7_layFar 126 = .ok (.iload 4, 2) := by decide +kernel
theorem dX7_layFar_128 : decode cX7_layFar 128 = .ok (.iload 5, 2) := by decide +kernel
theorem dX7_layFar_130 : decode cX7_layFar 130 = .ok (.invokestatic 64, 3) := by decide +kernel
theorem dX7_layFar_133 : decode cX7_layFar 133 = .ok (.iaload, 1) := by decide +kernel
theorem dX7_layFar_134 : decode cX7_layFar 134 = .ok (.iadd, 1) := by decide +kernel
theorem dX7_layFar_135 : decode cX7_layFar 135 = .ok (.iastore, 1) := by decide +kernel
theorem dX7_layFar_136 : decode cX7_layFar 136 = .ok (.aload_n 0, 1) := by decide +kernel
theorem dX7_layFar_137 : decode cX7_layFar 137 = .ok (.getfield 38, 3) := by decide +kernel
theorem dX7_layFar_140 : decode cX7_layFar 140 = .ok (.iload 5, 2) := by decide +kernel
theorem dX7_layFar_142 : decode cX7_layFar 142 = .ok (.aload_n 0, 1) := by decide +kernel
theorem dX7_layFar_143 : decode cX7_layFar 143 = .ok (.getfield 38, 3) := by decide +kernel
theorem dX7_layFar_146 : decode cX7_layFar 146 = .ok (.iload 4, 2) := by decide +kernel
theorem dX7_layFar_148 : decode cX7_layFar 148 = .ok (.iaload, 1) := by decide +kernel
theorem dX7_layFar_149 : decode cX7_layFar 149 = .ok (.iconst 1, 1) := by decide +kernel
theorem dX7_layFar_150 : decode cX7_layFar 150 = .ok (.iadd, 1) := by decide +kernel
theorem dX7_layFar_151 : decode cX7_layFar 151 = .ok (.iastore, 1) := by decide +kernel
theorem dX7_layFar_152 : decode cX7_layFar 152 = .ok (.iconst 1, 1) := by decide +kernel
theorem dX7_layFar_153 : decode cX7_layFar 153 = .ok (.istore_n 3, 1) := by decide +kernel
theorem dX7_layFar_154 : decode cX7_layFar 154 = .ok (.iinc 5 1, 3) := by decide +kernel
theorem dX7_layFar_157 : decode cX7_layFar 157 = .ok (.goto (-88), 3) := by decide +kernel
theorem dX7_layFar_160 : decode cX7_layFar 160 = .ok (.iinc 4 1, 3) := by decide +kernel
theorem dX7_layFar_163 : decode cX7_layFar 163 = .ok (.goto (-104), 3) := by decide +kernel
theorem dX7_layFar_166 : decode cX7_layFar 166 = .ok (.goto (-116), 3) := by decide +kernel
theorem dX7_layFar_169 : decode cX7_layFar 169 = .ok (.return_, 1) := by decide +kernel
theorem dX7_farOf_0 : decode cX7_farOf 0 = .ok (.aload_n 0, 1) := by decide +kernel
theorem dX7_farOf_1 : decode cX7_farOf 1 = .ok (.aload_n 1, 1) := by decide +kernel
theorem dX7_farOf_2 : decode cX7_farOf 2 = .ok (.iload_n 2, 1) := by decide +kernel
theorem dX7_farOf_3 : decode cX7_farOf 3 = .ok (.invokevirtual 68, 3) := by decide +kernel
theorem dX7_farOf_6 : decode cX7_farOf 6 = .ok (.aload_n 0, 1) := by decide +kernel
theorem dX7_farOf_7 : decode cX7_farOf 7 = .ok (.getfield 35, 3) := by decide +kernel
theorem dX7_farOf_10 : decode cX7_farOf 10 = .ok (.iload_n 3, 1) := by decide +kernel
theorem dX7_farOf_11 : decode cX7_farOf 11 = .ok (.iaload, 1) := by decide +kernel
theorem dX7_farOf_12 : decode cX7_farOf 12 = .ok (.ireturn, 1) := by decide +kernel
theorem dX7_isOneTree_0 : decode cX7_isOneTree 0 = .ok (.aload_n 0, 1) := by decide +kernel
theorem dX7_isOneTree_1 : decode cX7_isOneTree 1 = .ok (.aload_n 1, 1) := by decide +kernel
theorem dX7_isOneTree_2 : decode cX7_isOneTree 2 = .ok (.iload_n 2, 1) := by decide +kernel
theorem dX7_isOneTree_3 : decode cX7_isOneTree 3 = .ok (.iload_n 3, 1) := by decide +kernel
theorem dX7_isOneTree_4 : decode cX7_isOneTree 4 = .ok (.invokevirtual 72, 3) := by decide +kernel
theorem dX7_isOneTree_7 : decode cX7_isOneTree 7 = .ok (.bipush (-9), 2) := by decide +kernel
theorem dX7_isOneTree_9 : decode cX7_isOneTree 9 = .ok (.if_icmp .eq 7, 3) := by decide +kernel
theorem dX7_isOneTree_12 : decode cX7_isOneTree 12 = .ok (.iconst 1, 1) := by decide +kernel
theorem dX7_isOneTree_13 : decode cX7_isOneTree 13 = .ok (.goto 4, 3) := by decide +kernel
theorem dX7_isOneTree_16 : decode cX7_isOneTree 16 = .ok (.iconst 0, 1) := by decide +kernel
theorem dX7_isOneTree_17 : decode cX7_isOneTree 17 = .ok (.ireturn, 1) := by decide +kernel
theorem dX7_eccentricityOf_0 : decode cX7_eccentricityOf 0 = .ok (.aload_n 0, 1) := by decide +kernel
theorem dX7_eccentricityOf_1 : decode cX7_eccentricityOf 1 = .ok (.aload_n 1, 1) := by decide +kernel
theorem dX7_eccentricityOf_2 : decode cX7_eccentricityOf 2 = .ok (.iload_n 2, 1) := by decide +kernel
theorem dX7_eccentricityOf_3 : decode cX7_eccentricityOf 3 = .ok (.invokevirtual 68, 3) := by decide +kernel
theorem dX7_eccentricityOf_6 : decode cX7_eccentricityOf 6 = .ok (.iconst 0, 1) := by decide +kernel
theorem dX7_eccentricityOf_7 : decode cX7_eccentricityOf 7 = .ok (.istore_n 3, 1) := by decide +kernel
theorem dX7_eccentricityOf_8 : decode cX7_eccentricityOf 8 = .ok (.iconst 0, 1) := by decide +kernel
theorem dX7_eccentricityOf_9 : decode cX7_eccentricityOf 9 = .ok (.istore 4, 2) := by decide +kernel
theorem dX7_eccentricityOf_11 : decode cX7_eccentricityOf 11 = .ok (.iload 4, 2) := by decide +kernel
theorem dX7_eccentricityOf_13 : decode cX7_eccentricityOf 13 = .ok (.aload_n 0, 1) := by decide +kernel
theorem dX7_eccentricityOf_14 : decode cX7_eccentricityOf 14 = .ok (.getfield 56, 3) := by decide +kernel
theorem dX7_eccentricityOf_17 : decode cX7_eccentricityOf 17 = .ok (.if_icmp .ge 32, 3) := by decide +kernel
theorem dX7_eccentricityOf_20 : decode cX7_eccentricityOf 20 = .ok (.aload_n 0, 1) := by decide +kernel
theorem dX7_eccentricityOf_21 : decode cX7_eccentricityOf 21 = .ok (.getfield 35, 3) := by decide +kernel
theorem dX7_eccentricityOf_24 : decode cX7_eccentricityOf 24 = .ok (.iload 4, 2) := by decide +kernel
theorem dX7_eccentricityOf_26 : decode cX7_eccentricityOf 26 = .ok (.iaload, 1) := by decide +kernel
theorem dX7_eccentricityOf_27 : decode cX7_eccentricityOf 27 = .ok (.iload_n 3, 1) := by decide +kernel
theorem dX7_eccentricityOf_28 : decode cX7_eccentricityOf 28 = .ok (.if_icmp .le 13, 3) := by decide +kernel
theorem dX7_eccentricityOf_31 : decode cX7_eccentricityOf 31 = .ok (.aload_n 0, 1) := by decide +kernel
theorem dX7_eccentricityOf_32 : decode cX7_eccentricityOf 32 = .ok (.getfield 35, 3) := by decide +kernel
theorem dX7_eccentricityOf_35 : decode cX7_eccentricityOf 35 = .ok (.iload 4, 2) := by decide +kernel
theorem dX7_eccentricityOf_37 : decode cX7_eccentricityOf 37 = .ok (.iaload, 1) := by decide +kernel
theorem dX7_eccentricityOf_38 : decode cX7_eccentricityOf 38 = .ok (.goto 4, 3) := by decide +kernel
theorem dX7_eccentricityOf_41 : decode cX7_eccentricityOf 41 = .ok (.iload_n 3, 1) := by decide +kernel
theorem dX7_eccentricityOf_42 : decode cX7_eccentricityOf 42 = .ok (.istore_n 3, 1) := by decide +kernel
theorem dX7_eccentricityOf_43 : decode cX7_eccentricityOf 43 = .ok (.iinc 4 1, 3) := by decide +kernel
theorem dX7_eccentricityOf_46 : decode cX7_eccentricityOf 46 = .ok (.goto (-35), 3) := by decide +kernel
theorem dX7_eccentricityOf_49 : decode cX7_eccentricityOf 49 = .ok (.iload_n 3, 1) := by decide +kernel
theorem dX7_eccentricityOf_50 : decode cX7_eccentricityOf 50 = .ok (.ireturn, 1) := by decide +kernel
theorem dX7_diameterOf_0 : decode cX7_diameterOf 0 = .ok (.aload_n 0, 1) := by decide +kernel
theorem dX7_diameterOf_1 : decode cX7_diameterOf 1 = .ok (.aload_n 1, 1) := by decide +kernel
theorem dX7_diameterOf_2 : decode cX7_diameterOf 2 = .ok (.iload_n 2, 1) := by decide +kernel
theorem dX7_diameterOf_3 : decode cX7_diameterOf 3 = .ok (.invokevirtual 68, 3) := by decide +kernel
theorem dX7_diameterOf_6 : decode cX7_diameterOf 6 = .ok (.iconst 0, 1) := by decide +kernel
theorem dX7_diameterOf_7 : decode cX7_diameterOf 7 = .ok (.istore_n 3, 1) := by decide +kernel
theorem dX7_diameterOf_8 : decode cX7_diameterOf 8 = .ok (.iload_n 3, 1) := by decide +kernel
theorem dX7_diameterOf_9 : decode cX7_diameterOf 9 = .ok (.aload_n 0, 1) := by decide +kernel
theorem dX7_diameterOf_10 : decode cX7_diameterOf 10 = .ok (.getfield 56, 3) := by decide +kernel
theorem dX7_diameterOf_13 : decode cX7_diameterOf 13 = .ok (.if_icmp .ge 21, 3) := by decide +kernel
theorem dX7_diameterOf_16 : decode cX7_diameterOf 16 = .ok (.aload_n 0, 1) := by decide +kernel
theorem dX7_diameterOf_17 : decode cX7_diameterOf 17 = .ok (.getfield 41, 3) := by decide +kernel
theorem dX7_diameterOf_20 : decode cX7_diameterOf 20 = .ok (.iload_n 3, 1) := by decide +kernel
theorem dX7_diameterOf_21 : decode cX7_diameterOf 21 = .ok (.aload_n 0, 1) := by decide +kernel
theorem dX7_diameterOf_22 : decode cX7_diameterOf 22 = .ok (.getfield 35, 3) := by decide +kernel
theorem dX7_diameterOf_25 : decode cX7_diameterOf 25 = .ok (.iload_n 3, 1) := by decide +kernel
theorem dX7_diameterOf_26 : decode cX7_diameterOf 26 = .ok (.iaload, 1) := by decide +kernel
theorem dX7_diameterOf_27 : decode cX7_diameterOf 27 = .ok (.iastore, 1) := by decide +kernel
theorem dX7_diameterOf_28 : decode cX7_diameterOf 28 = .ok (.iinc 3 1, 3) := by decide +kernel
theorem dX7_diameterOf_31 : decode cX7_diameterOf 31 = .ok (.goto (-23), 3) := by decide +kernel
theorem dX7_diameterOf_34 : decode cX7_diameterOf 34 = .ok (.iconst 0, 1) := by decide +kernel
theorem dX7_diameterOf_35 : decode cX7_diameterOf 35 = .ok (.istore_n 3, 1) := by decide +kernel
theorem dX7_diameterOf_36 : decode cX7_diameterOf 36 = .ok (.iconst 0, 1) := by decide +kernel
theorem dX7_diameterOf_37 : decode cX7_diameterOf 37 = .ok (.istore 4, 2) := by decide +kernel
theorem dX7_diameterOf_39 : decode cX7_diameterOf 39 = .ok (.iload 4, 2) := by decide +kernel
theorem dX7_diameterOf_41 : decode cX7_diameterOf 41 = .ok (.aload_n 0, 1) := by decide +kernel
theorem dX7_diameterOf_42 : decode cX7_diameterOf 42 = .ok (.getfield 56, 3) := by decide +kernel
theorem dX7_diameterOf_45 : decode cX7_diameterOf 45 = .ok (.if_icmp .ge 43, 3) := by decide +kernel
theorem dX7_diameterOf_48 : decode cX7_diameterOf 48 = .ok (.aload_n 0, 1) := by decide +kernel
theorem dX7_diameterOf_49 : decode cX7_diameterOf 49 = .ok (.getfield 41, 3) := by decide +kernel
theorem dX7_diameterOf_52 : decode cX7_diameterOf 52 = .ok (.iload 4, 2) := by decide +kernel
theorem dX7_diameterOf_54 : decode cX7_diameterOf 54 = .ok (.iaload, 1) := by decide +kernel
theorem dX7_diameterOf_55 : decode cX7_diameterOf 55 = .ok (.bipush (-9), 2) := by decide +kernel
theorem dX7_diameterOf_57 : decode cX7_diameterOf 57 = .ok (.if_icmp .eq 25, 3) := by decide +kernel
theorem dX7_diameterOf_60 : decode cX7_diameterOf 60 = .ok (.aload_n 0, 1) := by decide +kernel
theorem dX7_diameterOf_61 : decode cX7_diameterOf 61 = .ok (.aload_n 1, 1) := by decide +kernel
theorem dX7_diameterOf_62 : decode cX7_diameterOf 62 = .ok (.iload 4, 2) := by decide +kernel
theorem dX7_diameterOf_64 : decode cX7_diameterOf 64 = .ok (.invokevirtual 76, 3) := by decide +kernel
theorem dX7_diameterOf_67 : decode cX7_diameterOf 67 = .ok (.istore 5, 2) := by decide +kernel
theorem dX7_diameterOf_69 : decode cX7_diameterOf 69 = .ok (.iload 5, 2) := by decide +kernel
theorem dX7_diameterOf_71 : decode cX7_diameterOf 71 = .ok (.iload_n 3, 1) := by decide +kernel
theorem dX7_diameterOf_72 : decode cX7_diameterOf 72 = .ok (.if_icmp .le 8, 3) := by decide +kernel
theorem dX7_diameterOf_75 : decode cX7_diameterOf 75 = .ok (.iload 5, 2) := by decide +kernel
theorem dX7_diameterOf_77 : decode cX7_diameterOf 77 = .ok (.goto 4, 3) := by decide +kernel
theorem dX7_diameterOf_80 : decode cX7_diameterOf 80 = .ok (.iload_n 3, 1) := by decide +kernel
theorem dX7_diameterOf_81 : decode cX7_diameterOf 81 = .ok (.istore_n 3, 1) := by decide +kernel
theorem dX7_diameterOf_82 : decode cX7_diameterOf 82 = .ok (.iinc 4 1, 3) := by decide +kernel
theorem dX7_diameterOf_85 : decode cX7_diameterOf 85 = .ok (.goto (-46), 3) := by decide +kernel
theorem dX7_diameterOf_88 : decode cX7_diameterOf 88 = .ok (.iload_n 3, 1) := by decide +kernel
theorem dX7_diameterOf_89 : decode cX7_diameterOf 89 = .ok (.ireturn, 1) := by decide +kernel
theorem dX7_costOf_0 : decode cX7_costOf 0 = .ok (.aload_n 0, 1) := by decide +kernel
theorem dX7_costOf_1 : decode cX7_costOf 1 = .ok (.aload_n 1, 1) := by decide +kernel
theorem dX7_costOf_2 : decode cX7_costOf 2 = .ok (.iload_n 2, 1) := by decide +kernel
theorem dX7_costOf_3 : decode cX7_costOf 3 = .ok (.invokevirtual 68, 3) := by decide +kernel
theorem dX7_costOf_6 : decode cX7_costOf 6 = .ok (.iconst 0, 1) := by decide +kernel
theorem dX7_costOf_7 : decode cX7_costOf 7 = .ok (.istore_n 3, 1) := by decide +kernel
theorem dX7_costOf_8 : decode cX7_costOf 8 = .ok (.iconst 0, 1) := by decide +kernel
theorem dX7_costOf_9 : decode cX7_costOf 9 = .ok (.istore 4, 2) := by decide +kernel
theorem dX7_costOf_11 : decode cX7_costOf 11 = .ok (.iload 4, 2) := by decide +kernel
theorem dX7_costOf_13 : decode cX7_costOf 13 = .ok (.aload_n 0, 1) := by decide +kernel
theorem dX7_costOf_14 : decode cX7_costOf 14 = .ok (.getfield 56, 3) := by decide +kernel
theorem dX7_costOf_17 : decode cX7_costOf 17 = .ok (.if_icmp .ge 40, 3) := by decide +kernel
theorem dX7_costOf_20 : decode cX7_costOf 20 = .ok (.iload_n 3, 1) := by decide +kernel
theorem dX7_costOf_21 : decode cX7_costOf 21 = .ok (.aload_n 0, 1) := by decide +kernel
theorem dX7_costOf_22 : decode cX7_costOf 22 = .ok (.getfield 35, 3) := by decide +kernel
theorem dX7_costOf_25 : decode cX7_costOf 25 = .ok (.iload 4, 2) := by decide +kernel
theorem dX7_costOf_27 : decode cX7_costOf 27 = .ok (.iaload, 1) := by decide +kernel
theorem dX7_costOf_28 : decode cX7_costOf 28 = .ok (.bipush (-9), 2) := by decide +kernel
theorem dX7_costOf_30 : decode cX7_costOf 30 = .ok (.if_icmp .ne 7, 3) := by decide +kernel
theorem dX7_costOf_33 : decode cX7_costOf 33 = .ok (.iconst 0, 1) := by decide +kernel
theorem dX7_costOf_34 : decode cX7_costOf 34 = .ok (.goto 15, 3) := by decide +kernel
theorem dX7_costOf_37 : decode cX7_costOf 37 = .ok (.aload_n 1, 1) := by decide +kernel
theorem dX7_costOf_38 : decode cX7_costOf 38 = .ok (.iload 4, 2) := by decide +kernel
theorem dX7_costOf_40 : decode cX7_costOf 40 = .ok (.iaload, 1) := by decide +kernel
theorem dX7_costOf_41 : decode cX7_costOf 41 = .ok (.aload_n 0, 1) := by decide +kernel
theorem dX7_costOf_42 : decode cX7_costOf 42 = .ok (.getfield 35, 3) := by decide +kernel
theorem dX7_costOf_45 : decode cX7_costOf 45 = .ok (.iload 4, 2) := by decide +kernel
theorem dX7_costOf_47 : decode cX7_costOf 47 = .ok (.iaload, 1) := by decide +kernel
theorem dX7_costOf_48 : decode cX7_costOf 48 = .ok (.imul, 1) := by decide +kernel
theorem dX7_costOf_49 : decode cX7_costOf 49 = .ok (.iadd, 1) := by decide +kernel
theorem dX7_costOf_50 : decode cX7_costOf 50 = .ok (.istore_n 3, 1) := by decide +kernel
theorem dX7_costOf_51 : decode cX7_costOf 51 = .ok (.iinc 4 1, 3) := by decide +kernel
theorem dX7_costOf_54 : decode cX7_costOf 54 = .ok (.goto (-43), 3) := by decide +kernel
theorem dX7_costOf_57 : decode cX7_costOf 57 = .ok (.iload_n 3, 1) := by decide +kernel
theorem dX7_costOf_58 : decode cX7_costOf 58 = .ok (.ireturn, 1) := by decide +kernel
theorem dX7_leastOf_0 : decode cX7_leastOf 0 = .ok (.aload_n 0, 1) := by decide +kernel
theorem dX7_leastOf_1 : decode cX7_leastOf 1 = .ok (.aload_n 1, 1) := by decide +kernel
theorem dX7_leastOf_2 : decode cX7_leastOf 2 = .ok (.iload_n 2, 1) := by decide +kernel
theorem dX7_leastOf_3 : decode cX7_leastOf 3 = .ok (.invokevirtual 68, 3) := by decide +kernel
theorem dX7_leastOf_6 : decode cX7_leastOf 6 = .ok (.iconst 0, 1) := by decide +kernel
theorem dX7_leastOf_7 : decode cX7_leastOf 7 = .ok (.istore 4, 2) := by decide +kernel
theorem dX7_leastOf_9 : decode cX7_leastOf 9 = .ok (.iload 4, 2) := by decide +kernel
theorem dX7_leastOf_11 : decode cX7_leastOf 11 = .ok (.aload_n 0, 1) := by decide +kernel
theorem dX7_leastOf_12 : decode cX7_leastOf 12 = .ok (.getfield 56, 3) := by decide +kernel
theorem dX7_leastOf_15 : decode cX7_leastOf 15 = .ok (.if_icmp .ge 23, 3) := by decide +kernel
theorem dX7_leastOf_18 : decode cX7_leastOf 18 = .ok (.aload_n 0, 1) := by decide +kernel
theorem dX7_leastOf_19 : decode cX7_leastOf 19 = .ok (.getfield 41, 3) := by decide +kernel
theorem dX7_leastOf_22 : decode cX7_leastOf 22 = .ok (.iload 4, 2) := by decide +kernel
theorem dX7_leastOf_24 : decode cX7_leastOf 24 = .ok (.aload_n 0, 1) := by decide +kernel
theorem dX7_leastOf_25 : decode cX7_leastOf 25 = .ok (.getfield 35, 3) := by decide +kernel
theorem dX7_leastOf_28 : decode cX7_leastOf 28 = .ok (.iload 4, 2) := by decide +kernel
theorem dX7_leastOf_30 : decode cX7_leastOf 30 = .ok (.iaload, 1) := by decide +kernel
theorem dX7_leastOf_31 : decode cX7_leastOf 31 = .ok (.iastore, 1) := by decide +kernel
theorem dX7_leastOf_32 : decode cX7_leastOf 32 = .ok (.iinc 4 1, 3) := by decide +kernel
theorem dX7_leastOf_35 : decode cX7_leastOf 35 = .ok (.goto (-26), 3) := by decide +kernel
theorem dX7_leastOf_38 : decode cX7_leastOf 38 = .ok (.bipush (-9), 2) := by decide +kernel
theorem dX7_leastOf_40 : decode cX7_leastOf 40 = .ok (.istore 4, 2) := by decide +kernel
theorem dX7_leastOf_42 : decode cX7_leastOf 42 = .ok (.iconst 0, 1) := by decide +kernel
theorem dX7_leastOf_43 : decode cX7_leastOf 43 = .ok (.istore 5, 2) := by decide +kernel
theorem dX7_leastOf_45 : decode cX7_leastOf 45 = .ok (.iconst 0, 1) := by decide +kernel
theorem dX7_leastOf_46 : decode cX7_leastOf 46 = .ok (.istore 6, 2) := by decide +kernel
theorem dX7_leastOf_48 : decode cX7_leastOf 48 = .ok (.iload 6, 2) := by decide +kernel
theorem dX7_leastOf_50 : decode cX7_leastOf 50 = .ok (.aload_n 0, 1) := by decide +kernel
theorem dX7_leastOf_51 : decode cX7_leastOf 51 = .ok (.getfield 56, 3) := by decide +kernel
theorem dX7_leastOf_54 : decode cX7_leastOf 54 = .ok (.if_icmp .ge 66, 3) := by decide +kernel
theorem dX7_leastOf_57 : decode cX7_leastOf 57 = .ok (.aload_n 0, 1) := by decide +kernel
theorem dX7_leastOf_58 : decode cX7_leastOf 58 = .ok (.getfield 41, 3) := by decide +kernel
theorem dX7_leastOf_61 : decode cX7_leastOf 61 = .ok (.iload 6, 2) := by decide +kernel
theorem dX7_leastOf_63 : decode cX7_leastOf 63 = .ok (.iaload, 1) := by decide +kernel
theorem dX7_leastOf_64 : decode cX7_leastOf 64 = .ok (.bipush (-9), 2) := by decide +kernel
theorem dX7_leastOf_66 : decode cX7_leastOf 66 = .ok (.if_icmp .eq 48, 3) := by decide +kernel
theorem dX7_leastOf_69 : decode cX7_leastOf 69 = .ok (.iload_n 3, 1) := by decide +kernel
theorem dX7_leastOf_70 : decode cX7_leastOf 70 = .ok (.ifCond .eq 13, 3) := by decide +kernel
theorem dX7_leastOf_73 : decode cX7_leastOf 73 = .ok (.aload_n 0, 1) := by decide +kernel
theorem dX7_leastOf_74 : decode cX7_leastOf 74 = .ok (.aload_n 1, 1) := by decide +kernel
theorem dX7_leastOf_75 : decode cX7_leastOf 75 = .ok (.iload 6, 2) := by decide +kernel
theorem dX7_leastOf_77 : decode cX7_leastOf 77 = .ok (.invokevirtual 80, 3) := by decide +kernel
theorem dX7_leastOf_80 : decode cX7_leastOf 80 = .ok (.goto 10, 3) := by decide +kernel
theorem dX7_leastOf_83 : decode cX7_leastOf 83 = .ok (.aload_n 0, 1) := by decide +kernel
theorem dX7_leastOf_84 : decode cX7_leastOf 84 = .ok (.aload_n 1, 1) := by decide +kernel
theorem dX7_leastOf_85 : decode cX7_leastOf 85 = .ok (.iload 6, 2) := by decide +kernel
theorem dX7_leastOf_87 : decode cX7_leastOf 87 = .ok (.invokevirtual 76, 3) := by decide +kernel
theorem dX7_leastOf_90 : decode cX7_leastOf 90 = .ok (.istore 7, 2) := by decide +kernel
theorem dX7_leastOf_92 : decode cX7_leastOf 92 = .ok (.iload 4, 2) := by decide +kernel
theorem dX7_leastOf_94 : decode cX7_leastOf 94 = .ok (.bipush (-9), 2) := by decide +kernel
theorem dX7_leastOf_96 : decode cX7_leastOf 96 = .ok (.if_icmp .eq 10, 3) := by decide +kernel
theorem dX7_leastOf_99 : decode cX7_leastOf 99 = .ok (.iload 7, 2) := by decide +kernel
theorem dX7_leastOf_101 : decode cX7_leastOf 101 = .ok (.iload 5, 2) := by decide +kernel
theorem dX7_leastOf_103 : decode cX7_leastOf 103 = .ok (.if_icmp .ge 11, 3) := by decide +kernel
theorem dX7_leastOf_106 : decode cX7_leastOf 106 = .ok (.iload 6, 2) := by decide +kernel
theorem dX7_leastOf_108 : decode cX7_leastOf 108 = .ok (.istore 4, 2) := by decide +kernel
theorem dX7_leastOf_110 : decode cX7_leastOf 110 = .ok (.iload 7, 2) := by decide +kernel
theorem dX7_leastOf_112 : decode cX7_leastOf 112 = .ok (.istore 5, 2) := by decide +kernel
theorem dX7_leastOf_114 : decode cX7_leastOf 114 = .ok (.iinc 6 1, 3) := by decide +kernel
theorem dX7_leastOf_117 : decode cX7_leastOf 117 = .ok (.goto (-69), 3) := by decide +kernel
theorem dX7_leastOf_120 : decode cX7_leastOf 120 = .ok (.iload 4, 2) := by decide +kernel
theorem dX7_leastOf_122 : decode cX7_leastOf 122 = .ok (.ireturn, 1) := by decide +kernel
theorem dX7_append_0 : decode cX7_append 0 = .ok (.iload_n 1, 1) := by decide +kernel
theorem dX7_append_1 : decode cX7_append 1 = .ok (.i2l, 1) := by decide +kernel
theorem dX7_append_2 : decode cX7_append 2 = .ok (.lconst 0, 1) := by decide +kernel
theorem dX7_append_3 : decode cX7_append 3 = .ok (.ldc2_w 83, 3) := by decide +kernel
theorem dX7_append_6 : decode cX7_append 6 = .ok (.invokestatic 60, 3) := by decide +kernel
theorem dX7_append_9 : decode cX7_append 9 = .ok (.ifCond .ne 6, 3) := by decide +kernel
theorem dX7_append_12 : decode cX7_append 12 = .ok (.bipush (-2), 2) := by decide +kernel
theorem dX7_append_14 : decode cX7_append 14 = .ok (.ireturn, 1) := by decide +kernel
theorem dX7_append_15 : decode cX7_append 15 = .ok (.aload_n 0, 1) := by decide +kernel
theorem dX7_append_16 : decode cX7_append 16 = .ok (.getfield 85, 3) := by decide +kernel
theorem dX7_append_19 : decode cX7_append 19 = .ok (.bipush 80, 2) := by decide +kernel
theorem dX7_append_21 : decode cX7_append 21 = .ok (.if_icmp .ne 6, 3) := by decide +kernel
theorem dX7_append_24 : decode cX7_append 24 = .ok (.bipush (-4), 2) := by decide +kernel
theorem dX7_append_26 : decode cX7_append 26 = .ok (.ireturn, 1) := by decide +kernel
theorem dX7_append_27 : decode cX7_append 27 = .ok (.aload_n 0, 1) := by decide +kernel
theorem dX7_append_28 : decode cX7_append 28 = .ok (.getfield 7, 3) := by decide +kernel
theorem dX7_append_31 : decode cX7_append 31 = .ok (.aload_n 0, 1) := by decide +kernel
theorem dX7_append_32 : decode cX7_append 32 = .ok (.getfield 85, 3) := by decide +kernel
theorem dX7_append_35 : decode cX7_append 35 = .ok (.iload_n 1, 1) := by decide +kernel
theorem dX7_append_36 : decode cX7_append 36 = .ok (.iastore, 1) := by decide +kernel
theorem dX7_append_37 : decode cX7_append 37 = .ok (.aload_n 0, 1) := by decide +kernel
theorem dX7_append_38 : decode cX7_append 38 = .ok (.dup, 1) := by decide +kernel
theorem dX7_append_39 : decode cX7_append 39 = .ok (.getfield 85, 3) := by decide +kernel
theorem dX7_append_42 : decode cX7_append 42 = .ok (.iconst 1, 1) := by decide +kernel
theorem dX7_append_43 : decode cX7_append 43 = .ok (.iadd, 1) := by decide +kernel
theorem dX7_append_44 : decode cX7_append 44 = .ok (.putfield 85, 3) := by decide +kernel
theorem dX7_append_47 : decode cX7_append 47 = .ok (.aload_n 0, 1) := by decide +kernel
theorem dX7_append_48 : decode cX7_append 48 = .ok (.getfield 85, 3) := by decide +kernel
theorem dX7_append_51 : decode cX7_append 51 = .ok (.ireturn, 1) := by decide +kernel
theorem dX7_clearText_0 : decode cX7_clearText 0 = .ok (.aload_n 0, 1) := by decide +kernel
theorem dX7_clearText_1 : decode cX7_clearText 1 = .ok (.getfield 85, 3) := by decide +kernel
theorem dX7_clearText_4 : decode cX7_clearText 4 = .ok (.istore_n 1, 1) := by decide +kernel
theorem dX7_clearText_5 : decode cX7_clearText 5 = .ok (.aload_n 0, 1) := by decide +kernel
theorem dX7_clearText_6 : decode cX7_clearText 6 = .ok (.iconst 0, 1) := by decide +kernel
theorem dX7_clearText_7 : decode cX7_clearText 7 = .ok (.putfield 85, 3) := by decide +kernel
theorem dX7_clearText_10 : decode cX7_clearText 10 = .ok (.iload_n 1, 1) := by decide +kernel
theorem dX7_clearText_11 : decode cX7_clearText 11 = .ok (.ireturn, 1) := by decide +kernel
theorem dX7_sign_0 : decode cX7_sign 0 = .ok (.aload_n 0, 1) := by decide +kernel
theorem dX7_sign_1 : decode cX7_sign 1 = .ok (.getfield 88, 3) := by decide +kernel
theorem dX7_sign_4 : decode cX7_sign 4 = .ok (.aload_n 0, 1) := by decide +kernel
theorem dX7_sign_5 : decode cX7_sign 5 = .ok (.getfield 85, 3) := by decide +kernel
theorem dX7_sign_8 : decode cX7_sign 8 = .ok (.if_icmp .ge 17, 3) := by decide +kernel
theorem dX7_sign_11 : decode cX7_sign 11 = .ok (.aload_n 0, 1) := by decide +kernel
theorem dX7_sign_12 : decode cX7_sign 12 = .ok (.getfield 7, 3) := by decide +kernel
theorem dX7_sign_15 : decode cX7_sign 15 = .ok (.aload_n 0, 1) := by decide +kernel
theorem dX7_sign_16 : decode cX7_sign 16 = .ok (.getfield 88, 3) := by decide +kernel
theorem dX7_sign_19 : decode cX7_sign 19 = .ok (.iaload, 1) := by decide +kernel
theorem dX7_sign_20 : decode cX7_sign 20 = .ok (.iload_n 1, 1) := by decide +kernel
theorem dX7_sign_21 : decode cX7_sign 21 = .ok (.isub, 1) := by decide +kernel
theorem dX7_sign_22 : decode cX7_sign 22 = .ok (.goto 5, 3) := by decide +kernel
theorem dX7_sign_25 : decode cX7_sign 25 = .ok (.bipush (-9), 2) := by decide +kernel
theorem dX7_sign_27 : decode cX7_sign 27 = .ok (.istore 4, 2) := by decide +kernel
theorem dX7_sign_29 : decode cX7_sign 29 = .ok (.iload 4, 2) := by decide +kernel
theorem dX7_sign_31 : decode cX7_sign 31 = .ok (.i2l, 1) := by decide +kernel
theorem dX7_sign_32 : decode cX7_sign 32 = .ok (.iload_n 2, 1) := by decide +kernel
theorem dX7_sign_33 : decode cX7_sign 33 = .ok (.i2l, 1) := by decide +kernel
theorem dX7_sign_34 : decode cX7_sign 34 = .ok (.iload_n 3, 1) := by decide +kernel
theorem dX7_sign_35 : decode cX7_sign 35 = .ok (.i2l, 1) := by decide +kernel
theorem dX7_sign_36 : decode cX7_sign 36 = .ok (.invokestatic 60, 3) := by decide +kernel
theorem dX7_sign_39 : decode cX7_sign 39 = .ok (.ifCond .ne 6, 3) := by decide +kernel
theorem dX7_sign_42 : decode cX7_sign 42 = .ok (.bipush (-9), 2) := by decide +kernel
theorem dX7_sign_44 : decode cX7_sign 44 = .ok (.ireturn, 1) := by decide +kernel
theorem dX7_sign_45 : decode cX7_sign 45 = .ok (.aload_n 0, 1) := by decide +kernel
theorem dX7_sign_46 : decode cX7_sign 46 = .ok (.dup, 1) := by decide +kernel
theorem dX7_sign_47 : decode cX7_sign 47 = .ok (.getfield 88, 3) := by decide +kernel
theorem dX7_sign_50 : decode cX7_sign 50 = .ok (.iconst 1, 1) := by decide +kernel
theorem dX7_sign_51 : decode cX7_sign 51 = .ok (.iadd, 1) := by decide +kernel
theorem dX7_sign_52 : decode cX7_sign 52 = .ok (.putfield 88, 3) := by decide +kernel
theorem dX7_sign_55 : decode cX7_sign 55 = .ok (.iload 4, 2) := by decide +kernel
theorem dX7_sign_57 : decode cX7_sign 57 = .ok (.ireturn, 1) := by decide +kernel
theorem dX7_number_0 : decode cX7_number 0 = .ok (.aload_n 0, 1) := by decide +kernel
theorem dX7_number_1 : decode cX7_number 1 = .ok (.bipush 48, 2) := by decide +kernel
theorem dX7_number_3 : decode cX7_number 3 = .ok (.iconst 0, 1) := by decide +kernel
theorem dX7_number_4 : decode cX7_number 4 = .ok (.iload_n 2, 1) := by decide +kernel
theorem dX7_number_5 : decode cX7_number 5 = .ok (.bipush 10, 2) := by decide +kernel
theorem dX7_number_7 : decode cX7_number 7 = .ok (.idiv, 1) := by decide +kernel
theorem dX7_number_8 : decode cX7_number 8 = .ok (.invokevirtual 91, 3) := by decide +kernel
theorem dX7_number_11 : decode cX7_number 11 = .ok (.istore_n 3, 1) := by decide +kernel
theorem dX7_number_12 : decode cX7_number 12 = .ok (.iload_n 3, 1) := by decide +kernel
theorem dX7_number_13 : decode cX7_number 13 = .ok (.bipush (-9), 2) := by decide +kernel
theorem dX7_number_15 : decode cX7_number 15 = .ok (.if_icmp .ne 6, 3) := by decide +kernel
theorem dX7_number_18 : decode cX7_number 18 = .ok (.bipush (-9), 2) := by decide +kernel
theorem dX7_number_20 : decode cX7_number 20 = .ok (.ireturn, 1) := by decide +kernel
theorem dX7_number_21 : decode cX7_number 21 = .ok (.aload_n 0, 1) := by decide +kernel
theorem dX7_number_22 : decode cX7_number 22 = .ok (.bipush 48, 2) := by decide +kernel
theorem dX7_number_24 : decode cX7_number 24 = .ok (.iload_n 3, 1) := by decide +kernel
theorem dX7_number_25 : decode cX7_number 25 = .ok (.ifCond .ne 7, 3) := by decide +kernel
theorem dX7_number_28 : decode cX7_number 28 = .ok (.iload_n 1, 1) := by decide +kernel
theorem dX7_number_29 : decode cX7_number 29 = .ok (.goto 4, 3) := by decide +kernel
theorem dX7_number_32 : decode cX7_number 32 = .ok (.iconst 0, 1) := by decide +kernel
theorem dX7_number_33 : decode cX7_number 33 = .ok (.iload_n 3, 1) := by decide +kernel
theorem dX7_number_34 : decode cX7_number 34 = .ok (.iload_n 2, 1) := by decide +kernel
theorem dX7_number_35 : decode cX7_number 35 = .ok (.bipush 10, 2) := by decide +kernel
theorem dX7_number_37 : decode cX7_number 37 = .ok (.idiv, 1) := by decide +kernel
theorem dX7_number_38 : decode cX7_number 38 = .ok (.if_icmp .ne 10, 3) := by decide +kernel
theorem dX7_number_41 : decode cX7_number 41 = .ok (.iload_n 2, 1) := by decide +kernel
theorem dX7_number_42 : decode cX7_number 42 = .ok (.bipush 10, 2) := by decide +kernel
theorem dX7_number_44 : decode cX7_number 44 = .ok (.irem, 1) := by decide +kernel
theorem dX7_number_45 : decode cX7_number 45 = .ok (.goto 5, 3) := by decide +kernel
theorem dX7_number_48 : decode cX7_number 48 = .ok (.bipush 9, 2) := by decide +kernel
theorem dX7_number_50 : decode cX7_number 50 = .ok (.invokevirtual 91, 3) := by decide +kernel
theorem dX7_number_53 : decode cX7_number 53 = .ok (.istore 4, 2) := by decide +kernel
theorem dX7_number_55 : decode cX7_number 55 = .ok (.iload 4, 2) := by decide +kernel
theorem dX7_number_57 : decode cX7_number 57 = .ok (.bipush (-9), 2) := by decide +kernel
theorem dX7_number_59 : decode cX7_number 59 = .ok (.if_icmp .ne 8, 3) := by decide +kernel
theorem dX7_number_62 : decode cX7_number 62 = .ok (.bipush (-9), 2) := by decide +kernel
theorem dX7_number_64 : decode cX7_number 64 = .ok (.goto 10, 3) := by decide +kernel
theorem dX7_number_67 : decode cX7_number 67 = .ok (.bipush 10, 2) := by decide +kernel
theorem dX7_number_69 : decode cX7_number 69 = .ok (.iload_n 3, 1) := by decide +kernel
theorem dX7_number_70 : decode cX7_number 70 = .ok (.imul, 1) := by decide +kernel
theorem dX7_number_71 : decode cX7_number 71 = .ok (.iload 4, 2) := by decide +kernel
theorem dX7_number_73 : decode cX7_number 73 = .ok (.iadd, 1) := by decide +kernel
theorem dX7_number_74 : decode cX7_number 74 = .ok (.ireturn, 1) := by decide +kernel
theorem dX7_readEdge_0 : decode cX7_readEdge 0 = .ok (.aload_n 0, 1) := by decide +kernel
theorem dX7_readEdge_1 : decode cX7_readEdge 1 = .ok (.bipush 97, 2) := by decide +kernel
theorem dX7_readEdge_3 : decode cX7_readEdge 3 = .ok (.iconst 0, 1) := by decide +kernel
theorem dX7_readEdge_4 : decode cX7_readEdge 4 = .ok (.aload_n 0, 1) := by decide +kernel
theorem dX7_readEdge_5 : decode cX7_readEdge 5 = .ok (.getfield 95, 3) := by decide +kernel
theorem dX7_readEdge_8 : decode cX7_readEdge 8 = .ok (.iconst 1, 1) := by decide +kernel
theorem dX7_readEdge_9 : decode cX7_readEdge 9 = .ok (.isub, 1) := by decide +kernel
theorem dX7_readEdge_10 : decode cX7_readEdge 10 = .ok (.invokevirtual 91, 3) := by decide +kernel
theorem dX7_readEdge_13 : decode cX7_readEdge 13 = .ok (.istore_n 1, 1) := by decide +kernel
theorem dX7_readEdge_14 : decode cX7_readEdge 14 = .ok (.iload_n 1, 1) := by decide +kernel
theorem dX7_readEdge_15 : decode cX7_readEdge 15 = .ok (.bipush (-9), 2) := by decide +kernel
theorem dX7_readEdge_17 : decode cX7_readEdge 17 = .ok (.if_icmp .ne 5, 3) := by decide +kernel
theorem dX7_readEdge_20 : decode cX7_readEdge 20 = .ok (.iconst 0, 1) := by decide +kernel
theorem dX7_readEdge_21 : decode cX7_readEdge 21 = .ok (.ireturn, 1) := by decide +kernel
theorem dX7_readEdge_22 : decode cX7_readEdge 22 = .ok (.aload_n 0, 1) := by decide +kernel
theorem dX7_readEdge_23 : decode cX7_readEdge 23 = .ok (.bipush 97, 2) := by decide +kernel
theorem dX7_readEdge_25 : decode cX7_readEdge 25 = .ok (.iconst 0, 1) := by decide +kernel
theorem dX7_readEdge_26 : decode cX7_readEdge 26 = .ok (.aload_n 0, 1) := by decide +kernel
theorem dX7_readEdge_27 : decode cX7_readEdge 27 = .ok (.getfield 95, 3) := by decide +kernel
theorem dX7_readEdge_30 : decode cX7_readEdge 30 = .ok (.iconst 1, 1) := by decide +kernel
theorem dX7_readEdge_31 : decode cX7_readEdge 31 = .ok (.isub, 1) := by decide +kernel
theorem dX7_readEdge_32 : decode cX7_readEdge 32 = .ok (.invokevirtual 91, 3) := by decide +kernel
theorem dX7_readEdge_35 : decode cX7_readEdge 35 = .ok (.istore_n 2, 1) := by decide +kernel
theorem dX7_readEdge_36 : decode cX7_readEdge 36 = .ok (.iload_n 2, 1) := by decide +kernel
theorem dX7_readEdge_37 : decode cX7_readEdge 37 = .ok (.bipush (-9), 2) := by decide +kernel
theorem dX7_readEdge_39 : decode cX7_readEdge 39 = .ok (.if_icmp .ne 5, 3) := by decide +kernel
theorem dX7_readEdge_42 : decode cX7_readEdge 42 = .ok (.iconst 0, 1) := by decide +kernel
theorem dX7_readEdge_43 : decode cX7_readEdge 43 = .ok (.ireturn, 1) := by decide +kernel
theorem dX7_readEdge_44 : decode cX7_readEdge 44 = .ok (.aload_n 0, 1) := by decide +kernel
theorem dX7_readEdge_45 : decode cX7_readEdge 45 = .ok (.aload_n 0, 1) := by decide +kernel
theorem dX7_readEdge_46 : decode cX7_readEdge 46 = .ok (.getfield 19, 3) := by decide +kernel
theorem dX7_readEdge_49 : decode cX7_readEdge 49 = .ok (.iload_n 1, 1) := by decide +kernel
theorem dX7_readEdge_50 : decode cX7_readEdge 50 = .ok (.iload_n 2, 1) := by decide +kernel
theorem dX7_readEdge_51 : decode cX7_readEdge 51 = .ok (.invokevirtual 98, 3) := by decide +kernel
theorem dX7_readEdge_54 : decode cX7_readEdge 54 = .ok (.ifCond .eq 15, 3) := by decide +kernel
theorem dX7_readEdge_57 : decode cX7_readEdge 57 = .ok (.aload_n 0, 1) := by decide +kernel
theorem dX7_readEdge_58 : decode cX7_readEdge 58 = .ok (.dup, 1) := by decide +kernel
theorem dX7_readEdge_59 : decode cX7_readEdge 59 = .ok (.getfield 88, 3) := by decide +kernel
theorem dX7_readEdge_62 : decode cX7_readEdge 62 = .ok (.iconst 1, 1) := by decide +kernel
theorem dX7_readEdge_63 : decode cX7_readEdge 63 = .ok (.isub, 1) := by decide +kernel
theorem dX7_readEdge_64 : decode cX7_readEdge 64 = .ok (.putfield 88, 3) := by decide +kernel
theorem dX7_readEdge_67 : decode cX7_readEdge 67 = .ok (.iconst 0, 1) := by decide +kernel
theorem dX7_readEdge_68 : decode cX7_readEdge 68 = .ok (.ireturn, 1) := by decide +kernel
theorem dX7_readEdge_69 : decode cX7_readEdge 69 = .ok (.aload_n 0, 1) := by decide +kernel
theorem dX7_readEdge_70 : decode cX7_readEdge 70 = .ok (.iconst 1, 1) := by decide +kernel
theorem dX7_readEdge_71 : decode cX7_readEdge 71 = .ok (.bipush 99, 2) := by decide +kernel
theorem dX7_readEdge_73 : decode cX7_readEdge 73 = .ok (.invokevirtual 102, 3) := by decide +kernel
theorem dX7_readEdge_76 : decode cX7_readEdge 76 = .ok (.istore_n 3, 1) := by decide +kernel
theorem dX7_readEdge_77 : decode cX7_readEdge 77 = .ok (.iload_n 3, 1) := by decide +kernel
theorem dX7_readEdge_78 : decode cX7_readEdge 78 = .ok (.bipush (-9), 2) := by decide +kernel
theorem dX7_readEdge_80 : decode cX7_readEdge 80 = .ok (.if_icmp .ne 5, 3) := by decide +kernel
theorem dX7_readEdge_83 : decode cX7_readEdge 83 = .ok (.iconst 0, 1) := by decide +kernel
theorem dX7_readEdge_84 : decode cX7_readEdge 84 = .ok (.ireturn, 1) := by decide +kernel
theorem dX7_readEdge_85 : decode cX7_readEdge 85 = .ok (.aload_n 0, 1) := by decide +kernel
theorem dX7_readEdge_86 : decode cX7_readEdge 86 = .ok (.getfield 19, 3) := by decide +kernel
theorem dX7_readEdge_89 : decode cX7_readEdge 89 = .ok (.iload_n 1, 1) := by decide +kernel
theorem dX7_readEdge_90 : decode cX7_readEdge 90 = .ok (.iload_n 2, 1) := by decide +kernel
theorem dX7_readEdge_91 : decode cX7_readEdge 91 = .ok (.iload_n 3, 1) := by decide +kernel
theorem dX7_readEdge_92 : decode cX7_readEdge 92 = .ok (.invokestatic 105, 3) := by decide +kernel
theorem dX7_readEdge_95 : decode cX7_readEdge 95 = .ok (.iconst 1, 1) := by decide +kernel
theorem dX7_readEdge_96 : decode cX7_readEdge 96 = .ok (.ireturn, 1) := by decide +kernel
theorem dX7_readText_0 : decode cX7_readText 0 = .ok (.iconst 0, 1) := by decide +kernel
theorem dX7_readText_1 : decode cX7_readText 1 = .ok (.istore_n 1, 1) := by decide +kernel
theorem dX7_readText_2 : decode cX7_readText 2 = .ok (.iload_n 1, 1) := by decide +kernel
theorem dX7_readText_3 : decode cX7_readText 3 = .ok (.sipush 156, 3) := by decide +kernel
theorem dX7_readText_6 : decode cX7_readText 6 = .ok (.if_icmp .ge 16, 3) := by decide +kernel
theorem dX7_readText_9 : decode cX7_readText 9 = .ok (.aload_n 0, 1) := by decide +kernel
theorem dX7_readText_10 : decode cX7_readText 10 = .ok (.getfield 19, 3) := by decide +kernel
theorem dX7_readText_13 : decode cX7_readText 13 = .ok (.iload_n 1, 1) := by decide +kernel
theorem dX7_readText_14 : decode cX7_readText 14 = .ok (.iconst 0, 1) := by decide +kernel
theorem dX7_readText_15 : decode cX7_readText 15 = .ok (.iastore, 1) := by decide +kernel
theorem dX7_readText_16 : decode cX7_readText 16 = .ok (.iinc 1 1, 3) := by decide +kernel
theorem dX7_readText_19 : decode cX7_readText 19 = .ok (.goto (-17), 3) := by decide +kernel
theorem dX7_readText_22 : decode cX7_readText 22 = .ok (.aload_n 0, 1) := by decide +kernel
theorem dX7_readText_23 : decode cX7_readText 23 = .ok (.iconst 0, 1) := by decide +kernel
theorem dX7_readText_24 : decode cX7_readText 24 = .ok (.putfield 88, 3) := by decide +kernel
theorem dX7_readText_27 : decode cX7_readText 27 = .ok (.aload_n 0, 1) := by decide +kernel
theorem dX7_readText_28 : decode cX7_readText 28 = .ok (.getfield 85, 3) := by decide +kernel
theorem dX7_readText_31 : decode cX7_readText 31 = .ok (.ifCond .eq 14, 3) := by decide +kernel
theorem dX7_readText_34 : decode cX7_readText 34 = .ok (.aload_n 0, 1) := by decide +kernel
theorem dX7_readText_35 : decode cX7_readText 35 = .ok (.getfield 7, 3) := by decide +kernel
theorem dX7_readText_38 : decode cX7_readText 38 = .ok (.iconst 0, 1) := by decide +kernel
theorem dX7_readText_39 : decode cX7_readText 39 = .ok (.iaload, 1) := by decide +kernel
theorem dX7_readText_40 : decode cX7_readText 40 = .ok (.bipush 70, 2) := by decide +kernel
theorem dX7_readText_42 : decode cX7_readText 42 = .ok (.if_icmp .eq 5, 3) := by decide +kernel
theorem dX7_readText_45 : decode cX7_readText 45 = .ok (.iconst 0, 1) := by decide +kernel
theorem dX7_readText_46 : decode cX7_readText 46 = .ok (.ireturn, 1) := by decide +kernel
theorem dX7_readText_47 : decode cX7_readText 47 = .ok (.aload_n 0, 1) := by decide +kernel
theorem dX7_readText_48 : decode cX7_readText 48 = .ok (.iconst 1, 1) := by decide +kernel
theorem dX7_readText_49 : decode cX7_readText 49 = .ok (.putfield 88, 3) := by decide +kernel
theorem dX7_readText_52 : decode cX7_readText 52 = .ok (.aload_n 0, 1) := by decide +kernel
theorem dX7_readText_53 : decode cX7_readText 53 = .ok (.aload_n 0, 1) := by decide +kernel
theorem dX7_readText_54 : decode cX7_readText 54 = .ok (.iconst 1, 1) := by decide +kernel
theorem dX7_readText_55 : decode cX7_readText 55 = .ok (.bipush 12, 2) := by decide +kernel
theorem dX7_readText_57 : decode cX7_readText 57 = .ok (.invokevirtual 102, 3) := by decide +kernel
theorem dX7_readText_60 : decode cX7_readText 60 = .ok (.putfield 95, 3) := by decide +kernel
theorem dX7_readText_63 : decode cX7_readText 63 = .ok (.aload_n 0, 1) := by decide +kernel
theorem dX7_readText_64 : decode cX7_readText 64 = .ok (.getfield 95, 3) := by decide +kernel
theorem dX7_readText_67 : decode cX7_readText 67 = .ok (.bipush (-9), 2) := by decide +kernel
theorem dX7_readText_69 : decode cX7_readText 69 = .ok (.if_icmp .ne 8, 3) := by decide +kernel
theorem dX7_readText_72 : decode cX7_readText 72 = .ok (.aload_n 0, 1) := by decide +kernel
theorem dX7_readText_73 : decode cX7_readText 73 = .ok (.getfield 88, 3) := by decide +kernel
theorem dX7_readText_76 : decode cX7_readText 76 = .ok (.ireturn, 1) := by decide +kernel
theorem dX7_readText_77 : decode cX7_readText 77 = .ok (.iconst 0, 1) := by decide +kernel
theorem dX7_readText_78 : decode cX7_readText 78 = .ok (.istore_n 1, 1) := by decide +kernel
theorem dX7_readText_79 : decode cX7_readText 79 = .ok (.iload_n 1, 1) := by decide +kernel
theorem dX7_readText_80 : decode cX7_readText 80 = .ok (.aload_n 0, 1) := by decide +kernel
theorem dX7_readText_81 : decode cX7_readText 81 = .ok (.getfield 95, 3) := by decide +kernel
theorem dX7_readText_84 : decode cX7_readText 84 = .ok (.if_icmp .ge 38, 3) := by decide +kernel
theorem dX7_readText_87 : decode cX7_readText 87 = .ok (.aload_n 0, 1) := by decide +kernel
theorem dX7_readText_88 : decode cX7_readText 88 = .ok (.getfield 19, 3) := by decide +kernel
theorem dX7_readText_91 : decode cX7_readText 91 = .ok (.iload_n 1, 1) := by decide +kernel
theorem dX7_readText_92 : decode cX7_readText 92 = .ok (.aload_n 0, 1) := by decide +kernel
theorem dX7_readText_93 : decode cX7_readText 93 = .ok (.iconst 0, 1) := by decide +kernel
theorem dX7_readText_94 : decode cX7_readText 94 = .ok (.bipush 99, 2) := by decide +kernel
theorem dX7_readText_96 : decode cX7_readText 96 = .ok (.invokevirtual 102, 3) := by decide +kernel
theorem dX7_readText_99 : decode cX7_readText 99 = .ok (.iastore, 1) := by decide +kernel
theorem dX7_readText_100 : decode cX7_readText 100 = .ok (.aload_n 0, 1) := by decide +kernel
theorem dX7_readText_101 : decode cX7_readText 101 = .ok (.getfield 19, 3) := by decide +kernel
theorem dX7_readText_104 : decode cX7_readText 104 = .ok (.iload_n 1, 1) := by decide +kernel
theorem dX7_readText_105 : decode cX7_readText 105 = .ok (.iaload, 1) := by decide +kernel
theorem dX7_readText_106 : decode cX7_readText 106 = .ok (.bipush (-9), 2) := by decide +kernel
theorem dX7_readText_108 : decode cX7_readText 108 = .ok (.if_icmp .ne 8, 3) := by decide +kernel
theorem dX7_readText_111 : decode cX7_readText 111 = .ok (.aload_n 0, 1) := by decide +kernel
theorem dX7_readText_112 : decode cX7_readText 112 = .ok (.getfield 88, 3) := by decide +kernel
theorem dX7_readText_115 : decode cX7_readText 115 = .ok (.ireturn, 1) := by decide +kernel
theorem dX7_readText_116 : decode cX7_readText 116 = .ok (.iinc 1 1, 3) := by decide +kernel
theorem dX7_readText_119 : decode cX7_readText 119 = .ok (.goto (-40), 3) := by decide +kernel
theorem dX7_readText_122 : decode cX7_readText 122 = .ok (.aload_n 0, 1) := by decide +kernel
theorem dX7_readText_123 : decode cX7_readText 123 = .ok (.getfield 88, 3) := by decide +kernel
theorem dX7_readText_126 : decode cX7_readText 126 = .ok (.aload_n 0, 1) := by decide +kernel
theorem dX7_readText_127 : decode cX7_readText 127 = .ok (.getfield 85, 3) := by decide +kernel
theorem dX7_readText_130 : decode cX7_readText 130 = .ok (.if_icmp .ge 15, 3) := by decide +kernel
theorem dX7_readText_133 : decode cX7_readText 133 = .ok (.aload_n 0, 1) := by decide +kernel
theorem dX7_readText_134 : decode cX7_readText 134 = .ok (.invokevirtual 109, 3) := by decide +kernel
theorem dX7_readText_137 : decode cX7_readText 137 = .ok (.ifCond .ne (-15), 3) := by decide +kernel
theorem dX7_readText_140 : decode cX7_readText 140 = .ok (.aload_n 0, 1) := by decide +kernel
theorem dX7_readText_141 : decode cX7_readText 141 = .ok (.getfield 88, 3) := by decide +kernel
theorem dX7_readText_144 : decode cX7_readText 144 = .ok (.ireturn, 1) := by decide +kernel
theorem dX7_readText_145 : decode cX7_readText 145 = .ok (.bipush (-9), 2) := by decide +kernel
theorem dX7_readText_147 : decode cX7_readText 147 = .ok (.ireturn, 1) := by decide +kernel
theorem dX7_errorPosition_0 : decode cX7_errorPosition 0 = .ok (.aload_n 0, 1) := by decide +kernel
theorem dX7_errorPosition_1 : decode cX7_errorPosition 1 = .ok (.invokevirtual 113, 3) := by decide +kernel
theorem dX7_errorPosition_4 : decode cX7_errorPosition 4 = .ok (.ireturn, 1) := by decide +kernel
theorem dX7_load_0 : decode cX7_load 0 = .ok (.aload_n 0, 1) := by decide +kernel
theorem dX7_load_1 : decode cX7_load 1 = .ok (.invokevirtual 113, 3) := by decide +kernel
theorem dX7_load_4 : decode cX7_load 4 = .ok (.bipush (-9), 2) := by decide +kernel
theorem dX7_load_6 : decode cX7_load 6 = .ok (.if_icmp .eq 6, 3) := by decide +kernel
theorem dX7_load_9 : decode cX7_load 9 = .ok (.bipush (-3), 2) := by decide +kernel
theorem dX7_load_11 : decode cX7_load 11 = .ok (.ireturn, 1) := by decide +kernel
theorem dX7_load_12 : decode cX7_load 12 = .ok (.aload_n 0, 1) := by decide +kernel
theorem dX7_load_13 : decode cX7_load 13 = .ok (.getfield 19, 3) := by decide +kernel
theorem dX7_load_16 : decode cX7_load 16 = .ok (.aload_n 0, 1) := by decide +kernel
theorem dX7_load_17 : decode cX7_load 17 = .ok (.getfield 13, 3) := by decide +kernel
theorem dX7_load_20 : decode cX7_load 20 = .ok (.invokestatic 117, 3) := by decide +kernel
theorem dX7_load_23 : decode cX7_load 23 = .ok (.aload_n 0, 1) := by decide +kernel
theorem dX7_load_24 : decode cX7_load 24 = .ok (.aload_n 0, 1) := by decide +kernel
theorem dX7_load_25 : decode cX7_load 25 = .ok (.getfield 95, 3) := by decide +kernel
theorem dX7_load_28 : decode cX7_load 28 = .ok (.putfield 56, 3) := by decide +kernel
theorem dX7_load_31 : decode cX7_load 31 = .ok (.aload_n 0, 1) := by decide +kernel
theorem dX7_load_32 : decode cX7_load 32 = .ok (.iconst 0, 1) := by decide +kernel
theorem dX7_load_33 : decode cX7_load 33 = .ok (.putfield 121, 3) := by decide +kernel
theorem dX7_load_36 : decode cX7_load 36 = .ok (.aload_n 0, 1) := by decide +kernel
theorem dX7_load_37 : decode cX7_load 37 = .ok (.getfield 28, 3) := by decide +kernel
theorem dX7_load_40 : decode cX7_load 40 = .ok (.iconst 0, 1) := by decide +kernel
theorem dX7_load_41 : decode cX7_load 41 = .ok (.iconst 0, 1) := by decide +kernel
theorem dX7_load_42 : decode cX7_load 42 = .ok (.bastore, 1) := by decide +kernel
theorem dX7_load_43 : decode cX7_load 43 = .ok (.aload_n 0, 1) := by decide +kernel
theorem dX7_load_44 : decode cX7_load 44 = .ok (.getfield 28, 3) := by decide +kernel
theorem dX7_load_47 : decode cX7_load 47 = .ok (.iconst 1, 1) := by decide +kernel
theorem dX7_load_48 : decode cX7_load 48 = .ok (.iconst 0, 1) := by decide +kernel
theorem dX7_load_49 : decode cX7_load 49 = .ok (.bastore, 1) := by decide +kernel
theorem dX7_load_50 : decode cX7_load 50 = .ok (.aload_n 0, 1) := by decide +kernel
theorem dX7_load_51 : decode cX7_load 51 = .ok (.getfield 13, 3) := by decide +kernel
theorem dX7_load_54 : decode cX7_load 54 = .ok (.invokestatic 124, 3) := by decide +kernel
theorem dX7_load_57 : decode cX7_load 57 = .ok (.ireturn, 1) := by decide +kernel
theorem dX7_vertexWeight_0 : decode cX7_vertexWeight 0 = .ok (.aload_n 0, 1) := by decide +kernel
theorem dX7_vertexWeight_1 : decode cX7_vertexWeight 1 = .ok (.iload_n 1, 1) := by decide +kernel
theorem dX7_vertexWeight_2 : decode cX7_vertexWeight 2 = .ok (.invokevirtual 128, 3) := by decide +kernel
theorem dX7_vertexWeight_5 : decode cX7_vertexWeight 5 = .ok (.ifCond .eq 12, 3) := by decide +kernel
theorem dX7_vertexWeight_8 : decode cX7_vertexWeight 8 = .ok (.aload_n 0, 1) := by decide +kernel
theorem dX7_vertexWeight_9 : decode cX7_vertexWeight 9 = .ok (.getfield 13, 3) := by decide +kernel
theorem dX7_vertexWeight_12 : decode cX7_vertexWeight 12 = .ok (.iload_n 1, 1) := by decide +kernel
theorem dX7_vertexWeight_13 : decode cX7_vertexWeight 13 = .ok (.iaload, 1) := by decide +kernel
theorem dX7_vertexWeight_14 : decode cX7_vertexWeight 14 = .ok (.goto 4, 3) := by decide +kernel
theorem dX7_vertexWeight_17 : decode cX7_vertexWeight 17 = .ok (.iconst (-1), 1) := by decide +kernel
theorem dX7_vertexWeight_18 : decode cX7_vertexWeight 18 = .ok (.ireturn, 1) := by decide +kernel
theorem dX7_edgeWeight_0 : decode cX7_edgeWeight 0 = .ok (.aload_n 0, 1) := by decide +kernel
theorem dX7_edgeWeight_1 : decode cX7_edgeWeight 1 = .ok (.iload_n 1, 1) := by decide +kernel
theorem dX7_edgeWeight_2 : decode cX7_edgeWeight 2 = .ok (.invokevirtual 128, 3) := by decide +kernel
theorem dX7_edgeWeight_5 : decode cX7_edgeWeight 5 = .ok (.ifCond .eq 11, 3) := by decide +kernel
theorem dX7_edgeWeight_8 : decode cX7_edgeWeight 8 = .ok (.aload_n 0, 1) := by decide +kernel
theorem dX7_edgeWeight_9 : decode cX7_edgeWeight 9 = .ok (.iload_n 2, 1) := by decide +kernel
theorem dX7_edgeWeight_10 : decode cX7_edgeWeight 10 = .ok (.invokevirtual 128, 3) := by decide +kernel
theorem dX7_edgeWeight_13 : decode cX7_edgeWeight 13 = .ok (.ifCond .ne 5, 3) := by decide +kernel
theorem dX7_edgeWeight_16 : decode cX7_edgeWeight 16 = .ok (.iconst (-1), 1) := by decide +kernel
theorem dX7_edgeWeight_17 : decode cX7_edgeWeight 17 = .ok (.ireturn, 1) := by decide +kernel
theorem dX7_edgeWeight_18 : decode cX7_edgeWeight 18 = .ok (.aload_n 0, 1) := by decide +kernel
theorem dX7_edgeWeight_19 : decode cX7_edgeWeight 19 = .ok (.getfield 13, 3) := by decide +kernel
theorem dX7_edgeWeight_22 : decode cX7_edgeWeight 22 = .ok (.iload_n 1, 1) := by decide +kernel
theorem dX7_edgeWeight_23 : decode cX7_edgeWeight 23 = .ok (.iload_n 2, 1) := by decide +kernel
theorem dX7_edgeWeight_24 : decode cX7_edgeWeight 24 = .ok (.invokestatic 64, 3) := by decide +kernel
theorem dX7_edgeWeight_27 : decode cX7_edgeWeight 27 = .ok (.iaload, 1) := by decide +kernel
theorem dX7_edgeWeight_28 : decode cX7_edgeWeight 28 = .ok (.ifCond .le 16, 3) := by decide +kernel
theorem dX7_edgeWeight_31 : decode cX7_edgeWeight 31 = .ok (.aload_n 0, 1) := by decide +kernel
theorem dX7_edgeWeight_32 : decode cX7_edgeWeight 32 = .ok (.getfield 13, 3) := by decide +kernel
theorem dX7_edgeWeight_35 : decode cX7_edgeWeight 35 = .ok (.iload_n 1, 1) := by decide +kernel
theorem dX7_edgeWeight_36 : decode cX7_edgeWeight 36 = .ok (.iload_n 2, 1) := by decide +kernel
theorem dX7_edgeWeight_37 : decode cX7_edgeWeight 37 = .ok (.invokestatic 64, 3) := by decide +kernel
theorem dX7_edgeWeight_40 : decode cX7_edgeWeight 40 = .ok (.iaload, 1) := by decide +kernel
theorem dX7_edgeWeight_41 : decode cX7_edgeWeight 41 = .ok (.goto 5, 3) := by decide +kernel
theorem dX7_edgeWeight_44 : decode cX7_edgeWeight 44 = .ok (.bipush (-9), 2) := by decide +kernel
theorem dX7_edgeWeight_46 : decode cX7_edgeWeight 46 = .ok (.ireturn, 1) := by decide +kernel
theorem dX7_treeOf_0 : decode cX7_treeOf 0 = .ok (.aload_n 0, 1) := by decide +kernel
theorem dX7_treeOf_1 : decode cX7_treeOf 1 = .ok (.iload_n 1, 1) := by decide +kernel
theorem dX7_treeOf_2 : decode cX7_treeOf 2 = .ok (.invokevirtual 128, 3) := by decide +kernel
theorem dX7_treeOf_5 : decode cX7_treeOf 5 = .ok (.ifCond .ne 5, 3) := by decide +kernel
theorem dX7_treeOf_8 : decode cX7_treeOf 8 = .ok (.iconst (-1), 1) := by decide +kernel
theorem dX7_treeOf_9 : decode cX7_treeOf 9 = .ok (.ireturn, 1) := by decide +kernel
theorem dX7_treeOf_10 : decode cX7_treeOf 10 = .ok (.aload_n 0, 1) := by decide +kernel
theorem dX7_treeOf_11 : decode cX7_treeOf 11 = .ok (.aload_n 0, 1) := by decide +kernel
theorem dX7_treeOf_12 : decode cX7_treeOf 12 = .ok (.getfield 13, 3) := by decide +kernel
theorem dX7_treeOf_15 : decode cX7_treeOf 15 = .ok (.iload_n 1, 1) := by decide +kernel
theorem dX7_treeOf_16 : decode cX7_treeOf 16 = .ok (.invokevirtual 68, 3) := by decide +kernel
theorem dX7_treeOf_19 : decode cX7_treeOf 19 = .ok (.iconst 0, 1) := by decide +kernel
theorem dX7_treeOf_20 : decode cX7_treeOf 20 = .ok (.istore_n 2, 1) := by decide +kernel
theorem dX7_treeOf_21 : decode cX7_treeOf 21 = .ok (.aload_n 0, 1) := by decide +kernel
theorem dX7_treeOf_22 : decode cX7_treeOf 22 = .ok (.getfield 35, 3) := by decide +kernel
theorem dX7_treeOf_25 : decode cX7_treeOf 25 = .ok (.iload_n 2, 1) := by decide +kernel
theorem dX7_treeOf_26 : decode cX7_treeOf 26 = .ok (.iaload, 1) := by decide +kernel
theorem dX7_treeOf_27 : decode cX7_treeOf 27 = .ok (.bipush (-9), 2) := by decide +kernel
theorem dX7_treeOf_29 : decode cX7_treeOf 29 = .ok (.if_icmp .ne 9, 3) := by decide +kernel
theorem dX7_treeOf_32 : decode cX7_treeOf 32 = .ok (.iinc 2 1, 3) := by decide +kernel
theorem dX7_treeOf_35 : decode cX7_treeOf 35 = .ok (.goto (-14), 3) := by decide +kernel
theorem dX7_treeOf_38 : decode cX7_treeOf 38 = .ok (.iload_n 2, 1) := by decide +kernel
theorem dX7_treeOf_39 : decode cX7_treeOf 39 = .ok (.ireturn, 1) := by decide +kernel
theorem dX7_note_0 : decode cX7_note 0 = .ok (.iconst 0, 1) := by decide +kernel
theorem dX7_note_1 : decode cX7_note 1 = .ok (.istore_n 1, 1) := by decide +kernel
theorem dX7_note_2 : decode cX7_note 2 = .ok (.iload_n 1, 1) := by decide +kernel
theorem dX7_note_3 : decode cX7_note 3 = .ok (.sipush 156, 3) := by decide +kernel
theorem dX7_note_6 : decode cX7_note 6 = .ok (.if_icmp .ge 30, 3) := by decide +kernel
theorem dX7_note_9 : decode cX7_note 9 = .ok (.aload_n 0, 1) := by decide +kernel
theorem dX7_note_10 : decode cX7_note 10 = .ok (.getfield 22, 3) := by decide +kernel
theorem dX7_note_13 : decode cX7_note 13 = .ok (.sipush 156, 3) := by decide +kernel
theorem dX7_note_16 : decode cX7_note 16 = .ok (.aload_n 0, 1) := by decide +kernel
theorem dX7_note_17 : decode cX7_note 17 = .ok (.getfield 132, 3) := by decide +kernel
theorem dX7_note_20 : decode cX7_note 20 = .ok (.imul, 1) := by decide +kernel
theorem dX7_note_21 : decode cX7_note 21 = .ok (.iload_n 1, 1) := by decide +kernel
theorem dX7_note_22 : decode cX7_note 22 = .ok (.iadd, 1) := by decide +kernel
theorem dX7_note_23 : decode cX7_note 23 = .ok (.aload_n 0, 1) := by decide +kernel
theorem dX7_note_24 : decode cX7_note 24 = .ok (.getfield 13, 3) := by decide +kernel
theorem dX7_note_27 : decode cX7_note 27 = .ok (.iload_n 1, 1) := by decide +kernel
theorem dX7_note_28 : decode cX7_note 28 = .ok (.iaload, 1) := by decide +kernel
theorem dX7_note_29 : decode cX7_note 29 = .ok (.iastore, 1) := by decide +kernel
theorem dX7_note_30 : decode cX7_note 30 = .ok (.iinc 1 1, 3) := by decide +kernel
theorem dX7_note_33 : decode cX7_note 33 = .ok (.goto (-31), 3) := by decide +kernel
theorem dX7_note_36 : decode cX7_note 36 = .ok (.aload_n 0, 1) := by decide +kernel
theorem dX7_note_37 : decode cX7_note 37 = .ok (.aload_n 0, 1) := by decide +kernel
theorem dX7_note_38 : decode cX7_note 38 = .ok (.getfield 132, 3) := by decide +kernel
theorem dX7_note_41 : decode cX7_note 41 = .ok (.iconst 1, 1) := by decide +kernel
theorem dX7_note_42 : decode cX7_note 42 = .ok (.iadd, 1) := by decide +kernel
theorem dX7_note_43 : decode cX7_note 43 = .ok (.bipush 14, 2) := by decide +kernel
theorem dX7_note_45 : decode cX7_note 45 = .ok (.irem, 1) := by decide +kernel
theorem dX7_note_46 : decode cX7_note 46 = .ok (.putfield 132, 3) := by decide +kernel
theorem dX7_note_49 : decode cX7_note 49 = .ok (.aload_n 0, 1) := by decide +kernel
theorem dX7_note_50 : decode cX7_note 50 = .ok (.aload_n 0, 1) := by decide +kernel
theorem dX7_note_51 : decode cX7_note 51 = .ok (.getfield 121, 3) := by decide +kernel
theorem dX7_note_54 : decode cX7_note 54 = .ok (.bipush 14, 2) := by decide +kernel
theorem dX7_note_56 : decode cX7_note 56 = .ok (.if_icmp .ge 12, 3) := by decide +kernel
theorem dX7_note_59 : decode cX7_note 59 = .ok (.aload_n 0, 1) := by decide +kernel
theorem dX7_note_60 : decode cX7_note 60 = .ok (.getfield 121, 3) := by decide +kernel
theorem dX7_note_63 : decode cX7_note 63 = .ok (.iconst 1, 1) := by decide +kernel
theorem dX7_note_64 : decode cX7_note 64 = .ok (.iadd, 1) := by decide +kernel
theorem dX7_note_65 : decode cX7_note 65 = .ok (.goto 5, 3) := by decide +kernel
theorem dX7_note_68 : decode cX7_note 68 = .ok (.bipush 14, 2) := by decide +kernel
theorem dX7_note_70 : decode cX7_note 70 = .ok (.putfield 121, 3) := by decide +kernel
theorem dX7_note_73 : decode cX7_note 73 = .ok (.return_, 1) := by decide +kernel
theorem dX7_linkError_0 : decode cX7_linkError 0 = .ok (.aload_n 0, 1) := by decide +kernel
theorem dX7_linkError_1 : decode cX7_linkError 1 = .ok (.iload_n 2, 1) := by decide +kernel
theorem dX7_linkError_2 : decode cX7_linkError 2 = .ok (.invokevirtual 128, 3) := by decide +kernel
theorem dX7_linkError_5 : decode cX7_linkError 5 = .ok (.ifCond .eq 11, 3) := by decide +kernel
theorem dX7_linkError_8 : decode cX7_linkError 8 = .ok (.aload_n 0, 1) := by decide +kernel
theorem dX7_linkError_9 : decode cX7_linkError 9 = .ok (.iload_n 3, 1) := by decide +kernel
theorem dX7_linkError_10 : decode cX7_linkError 10 = .ok (.invokevirtual 128, 3) := by decide +kernel
theorem dX7_linkError_13 : decode cX7_linkError 13 = .ok (.ifCond .ne 5, 3) := by decide +kernel
theorem dX7_linkError_16 : decode cX7_linkError 16 = .ok (.iconst (-1), 1) := by decide +kernel
theorem dX7_linkError_17 : decode cX7_linkError 17 = .ok (.ireturn, 1) := by decide +kernel
theorem dX7_linkError_18 : decode cX7_linkError 18 = .ok (.iload 4, 2) := by decide +kernel
theorem dX7_linkError_20 : decode cX7_linkError 20 = .ok (.i2l, 1) := by decide +kernel
theorem dX7_linkError_21 : decode cX7_linkError 21 = .ok (.lconst 1, 1) := by decide +kernel
theorem dX7_linkError_22 : decode cX7_linkError 22 = .ok (.ldc2_w 135, 3) := by decide +kernel
theorem dX7_linkError_25 : decode cX7_linkError 25 = .ok (.invokestatic 60, 3) := by decide +kernel
theorem dX7_linkError_28 : decode cX7_linkError 28 = .ok (.ifCond .ne 6, 3) := by decide +kernel
theorem dX7_linkError_31 : decode cX7_linkError 31 = .ok (.bipush (-2), 2) := by decide +kernel
theorem dX7_linkError_33 : decode cX7_linkError 33 = .ok (.ireturn, 1) := by decide +kernel
theorem dX7_linkError_34 : decode cX7_linkError 34 = .ok (.aload_n 0, 1) := by decide +kernel
theorem dX7_linkError_35 : decode cX7_linkError 35 = .ok (.aload_n 1, 1) := by decide +kernel
theorem dX7_linkError_36 : decode cX7_linkError 36 = .ok (.iload_n 2, 1) := by decide +kernel
theorem dX7_linkError_37 : decode cX7_linkError 37 = .ok (.iload_n 3, 1) := by decide +kernel
theorem dX7_linkError_38 : decode cX7_linkError 38 = .ok (.invokevirtual 98, 3) := by decide +kernel
theorem dX7_linkError_41 : decode cX7_linkError 41 = .ok (.ifCond .eq 8, 3) := by decide +kernel
theorem dX7_linkError_44 : decode cX7_linkError 44 = .ok (.bipush (-3), 2) := by decide +kernel
theorem dX7_linkError_46 : decode cX7_linkError 46 = .ok (.goto 4, 3) := by decide +kernel
theorem dX7_linkError_49 : decode cX7_linkError 49 = .ok (.iconst 0, 1) := by decide +kernel
theorem dX7_linkError_50 : decode cX7_linkError 50 = .ok (.ireturn, 1) := by decide +kernel
theorem dX7_link_0 : decode cX7_link 0 = .ok (.aload_n 0, 1) := by decide +kernel
theorem dX7_link_1 : decode cX7_link 1 = .ok (.aload_n 0, 1) := by decide +kernel
theorem dX7_link_2 : decode cX7_link 2 = .ok (.getfield 13, 3) := by decide +kernel
theorem dX7_link_5 : decode cX7_link 5 = .ok (.iload_n 1, 1) := by decide +kernel
theorem dX7_link_6 : decode cX7_link 6 = .ok (.iload_n 2, 1) := by decide +kernel
theorem dX7_link_7 : decode cX7_link 7 = .ok (.iload_n 3, 1) := by decide +kernel
theorem dX7_link_8 : decode cX7_link 8 = .ok (.invokevirtual 137, 3) := by decide +kernel
theorem dX7_link_11 : decode cX7_link 11 = .ok (.istore 4, 2) := by decide +kernel
theorem dX7_link_13 : decode cX7_link 13 = .ok (.iload 4, 2) := by decide +kernel
theorem dX7_link_15 : decode cX7_link 15 = .ok (.ifCond .eq 6, 3) := by decide +kernel
theorem dX7_link_18 : decode cX7_link 18 = .ok (.iload 4, 2) := by decide +kernel
theorem dX7_link_20 : decode cX7_link 20 = .ok (.ireturn, 1) := by decide +kernel
theorem dX7_link_21 : decode cX7_link 21 = .ok (.aload_n 0, 1) := by decide +kernel
theorem dX7_link_22 : decode cX7_link 22 = .ok (.invokevirtual 141, 3) := by decide +kernel
theorem dX7_link_25 : decode cX7_link 25 = .ok (.aload_n 0, 1) := by decide +kernel
theorem dX7_link_26 : decode cX7_link 26 = .ok (.getfield 13, 3) := by decide +kernel
theorem dX7_link_29 : decode cX7_link 29 = .ok (.iload_n 1, 1) := by decide +kernel
theorem dX7_link_30 : decode cX7_link 30 = .ok (.iload_n 2, 1) := by decide +kernel
theorem dX7_link_31 : decode cX7_link 31 = .ok (.iload_n 3, 1) := by decide +kernel
theorem dX7_link_32 : decode cX7_link 32 = .ok (.invokestatic 105, 3) := by decide +kernel
theorem dX7_link_35 : decode cX7_link 35 = .ok (.aload_n 0, 1) := by decide +kernel
theorem dX7_link_36 : decode cX7_link 36 = .ok (.getfield 13, 3) := by decide +kernel
theorem dX7_link_39 : decode cX7_link 39 = .ok (.invokestatic 124, 3) := by decide +kernel
theorem dX7_link_42 : decode cX7_link 42 = .ok (.ireturn, 1) := by decide +kernel
theorem dX7_edgeError_0 : decode cX7_edgeError 0 = .ok (.aload_n 0, 1) := by decide +kernel
theorem dX7_edgeError_1 : decode cX7_edgeError 1 = .ok (.iload_n 2, 1) := by decide +kernel
theorem dX7_edgeError_2 : decode cX7_edgeError 2 = .ok (.invokevirtual 128, 3) := by decide +kernel
theorem dX7_edgeError_5 : decode cX7_edgeError 5 = .ok (.ifCond .eq 11, 3) := by decide +kernel
theorem dX7_edgeError_8 : decode cX7_edgeError 8 = .ok (.aload_n 0, 1) := by decide +kernel
theorem dX7_edgeError_9 : decode cX7_edgeError 9 = .ok (.iload_n 3, 1) := by decide +kernel
theorem dX7_edgeError_10 : decode cX7_edgeError 10 = .ok (.invokevirtual 128, 3) := by decide +kernel
theorem dX7_edgeError_13 : decode cX7_edgeError 13 = .ok (.ifCond .ne 5, 3) := by decide +kernel
theorem dX7_edgeError_16 : decode cX7_edgeError 16 = .ok (.iconst (-1), 1) := by decide +kernel
theorem dX7_edgeError_17 : decode cX7_edgeError 17 = .ok (.ireturn, 1) := by decide +kernel
theorem dX7_edgeError_18 : decode cX7_edgeError 18 = .ok (.iload 4, 2) := by decide +kernel
theorem dX7_edgeError_20 : decode cX7_edgeError 20 = .ok (.i2l, 1) := by decide +kernel
theorem dX7_edgeError_21 : decode cX7_edgeError 21 = .ok (.lconst 1, 1) := by decide +kernel
theorem dX7_edgeError_22 : decode cX7_edgeError 22 = .ok (.ldc2_w 135, 3) := by decide +kernel
theorem dX7_edgeError_25 : decode cX7_edgeError 25 = .ok (.invokestatic 60, 3) := by decide +kernel
theorem dX7_edgeError_28 : decode cX7_edgeError 28 = .ok (.ifCond .ne 6, 3) := by decide +kernel
theorem dX7_edgeError_31 : decode cX7_edgeError 31 = .ok (.bipush (-2), 2) := by decide +kernel
theorem dX7_edgeError_33 : decode cX7_edgeError 33 = .ok (.ireturn, 1) := by decide +kernel
theorem dX7_edgeError_34 : decode cX7_edgeError 34 = .ok (.aload_n 1, 1) := by decide +kernel
theorem dX7_edgeError_35 : decode cX7_edgeError 35 = .ok (.iload_n 2, 1) := by decide +kernel
theorem dX7_edgeError_36 : decode cX7_edgeError 36 = .ok (.iload_n 3, 1) := by decide +kernel
theorem dX7_edgeError_37 : decode cX7_edgeError 37 = .ok (.invokestatic 64, 3) := by decide +kernel
theorem dX7_edgeError_40 : decode cX7_edgeError 40 = .ok (.iaload, 1) := by decide +kernel
theorem dX7_edgeError_41 : decode cX7_edgeError 41 = .ok (.ifCond .ne 8, 3) := by decide +kernel
theorem dX7_edgeError_44 : decode cX7_edgeError 44 = .ok (.bipush (-3), 2) := by decide +kernel
theorem dX7_edgeError_46 : decode cX7_edgeError 46 = .ok (.goto 4, 3) := by decide +kernel
theorem dX7_edgeError_49 : decode cX7_edgeError 49 = .ok (.iconst 0, 1) := by decide +kernel
theorem dX7_edgeError_50 : decode cX7_edgeError 50 = .ok (.ireturn, 1) := by decide +kernel
theorem dX7_cut_0 : decode cX7_cut 0 = .ok (.aload_n 0, 1) := by decide +kernel
theorem dX7_cut_1 : decode cX7_cut 1 = .ok (.aload_n 0, 1) := by decide +kernel
theorem dX7_cut_2 : decode cX7_cut 2 = .ok (.getfield 13, 3) := by decide +kernel
theorem dX7_cut_5 : decode cX7_cut 5 = .ok (.iload_n 1, 1) := by decide +kernel
theorem dX7_cut_6 : decode cX7_cut 6 = .ok (.iload_n 2, 1) := by decide +kernel
theorem dX7_cut_7 : decode cX7_cut 7 = .ok (.iconst 1, 1) := by decide +kernel
theorem dX7_cut_8 : decode cX7_cut 8 = .ok (.invokevirtual 144, 3) := by decide +kernel
theorem dX7_cut_11 : decode cX7_cut 11 = .ok (.istore_n 3, 1) := by decide +kernel
theorem dX7_cut_12 : decode cX7_cut 12 = .ok (.iload_n 3, 1) := by decide +kernel
theorem dX7_cut_13 : decode cX7_cut 13 = .ok (.ifCond .eq 5, 3) := by decide +kernel
theorem dX7_cut_16 : decode cX7_cut 16 = .ok (.iload_n 3, 1) := by decide +kernel
theorem dX7_cut_17 : decode cX7_cut 17 = .ok (.ireturn, 1) := by decide +kernel
theorem dX7_cut_18 : decode cX7_cut 18 = .ok (.aload_n 0, 1) := by decide +kernel
theorem dX7_cut_19 : decode cX7_cut 19 = .ok (.invokevirtual 141, 3) := by decide +kernel
theorem dX7_cut_22 : decode cX7_cut 22 = .ok (.aload_n 0, 1) := by decide +kernel
theorem dX7_cut_23 : decode cX7_cut 23 = .ok (.getfield 13, 3) := by decide +kernel
theorem dX7_cut_26 : decode cX7_cut 26 = .ok (.iload_n 1, 1) := by decide +kernel
theorem dX7_cut_27 : decode cX7_cut 27 = .ok (.iload_n 2, 1) := by decide +kernel
theorem dX7_cut_28 : decode cX7_cut 28 = .ok (.invokestatic 64, 3) := by decide +kernel
theorem dX7_cut_31 : decode cX7_cut 31 = .ok (.iaload, 1) := by decide +kernel
theorem dX7_cut_32 : decode cX7_cut 32 = .ok (.istore 4, 2) := by decide +kernel
theorem dX7_cut_34 : decode cX7_cut 34 = .ok (.aload_n 0, 1) := by decide +kernel
theorem dX7_cut_35 : decode cX7_cut 35 = .ok (.getfield 13, 3) := by decide +kernel
theorem dX7_cut_38 : decode cX7_cut 38 = .ok (.iload_n 1, 1) := by decide +kernel
theorem dX7_cut_39 : decode cX7_cut 39 = .ok (.iload_n 2, 1) := by decide +kernel
theorem dX7_cut_40 : decode cX7_cut 40 = .ok (.iconst 0, 1) := by decide +kernel
theorem dX7_cut_41 : decode cX7_cut 41 = .ok (.invokestatic 105, 3) := by decide +kernel
theorem dX7_cut_44 : decode cX7_cut 44 = .ok (.iload 4, 2) := by decide +kernel
theorem dX7_cut_46 : decode cX7_cut 46 = .ok (.ireturn, 1) := by decide +kernel
theorem dX7_setEdgeWeight_0 : decode cX7_setEdgeWeight 0 = .ok (.aload_n 0, 1) := by decide +kernel
theorem dX7_setEdgeWeight_1 : decode cX7_setEdgeWeight 1 = .ok (.aload_n 0, 1) := by decide +kernel
theorem dX7_setEdgeWeight_2 : decode cX7_setEdgeWeight 2 = .ok (.getfield 13, 3) := by decide +kernel
theorem dX7_setEdgeWeight_5 : decode cX7_setEdgeWeight 5 = .ok (.iload_n 1, 1) := by decide +kernel
theorem dX7_setEdgeWeight_6 : decode cX7_setEdgeWeight 6 = .ok (.iload_n 2, 1) := by decide +kernel
theorem dX7_setEdgeWeight_7 : decode cX7_setEdgeWeight 7 = .ok (.iload_n 3, 1) := by decide +kernel
theorem dX7_setEdgeWeight_8 : decode cX7_setEdgeWeight 8 = .ok (.invokevirtual 144, 3) := by decide +kernel
theorem dX7_setEdgeWeight_11 : decode cX7_setEdgeWeight 11 = .ok (.istore 4, 2) := by decide +kernel
theorem dX7_setEdgeWeight_13 : decode cX7_setEdgeWeight 13 = .ok (.iload 4, 2) := by decide +kernel
theorem dX7_setEdgeWeight_15 : decode cX7_setEdgeWeight 15 = .ok (.ifCond .eq 6, 3) := by decide +kernel
theorem dX7_setEdgeWeight_18 : decode cX7_setEdgeWeight 18 = .ok (.iload 4, 2) := by decide +kernel
theorem dX7_setEdgeWeight_20 : decode cX7_setEdgeWeight 20 = .ok (.ireturn, 1) := by decide +kernel
theorem dX7_setEdgeWeight_21 : decode cX7_setEdgeWeight 21 = .ok (.aload_n 0, 1) := by decide +kernel
theorem dX7_setEdgeWeight_22 : decode cX7_setEdgeWeight 22 = .ok (.invokevirtual 141, 3) := by decide +kernel
theorem dX7_setEdgeWeight_25 : decode cX7_setEdgeWeight 25 = .ok (.aload_n 0, 1) := by decide +kernel
theorem dX7_setEdgeWeight_26 : decode cX7_setEdgeWeight 26 = .ok (.getfield 13, 3) := by decide +kernel
theorem dX7_setEdgeWeight_29 : decode cX7_setEdgeWeight 29 = .ok (.iload_n 1, 1) := by decide +kernel
theorem dX7_setEdgeWeight_30 : decode cX7_setEdgeWeight 30 = .ok (.iload_n 2, 1) := by decide +kernel
theorem dX7_setEdgeWeight_31 : decode cX7_setEdgeWeight 31 = .ok (.invokestatic 64, 3) := by decide +kernel
theorem dX7_setEdgeWeight_34 : decode cX7_setEdgeWeight 34 = .ok (.iaload, 1) := by decide +kernel
theorem dX7_setEdgeWeight_35 : decode cX7_setEdgeWeight 35 = .ok (.istore 5, 2) := by decide +kernel
theorem dX7_setEdgeWeight_37 : decode cX7_setEdgeWeight 37 = .ok (.aload_n 0, 1) := by decide +kernel
theorem dX7_setEdgeWeight_38 : decode cX7_setEdgeWeight 38 = .ok (.getfield 13, 3) := by decide +kernel
theorem dX7_setEdgeWeight_41 : decode cX7_setEdgeWeight 41 = .ok (.iload_n 1, 1) := by decide +kernel
theorem dX7_setEdgeWeight_42 : decode cX7_setEdgeWeight 42 = .ok (.iload_n 2, 1) := by decide +kernel
theorem dX7_setEdgeWeight_43 : decode cX7_setEdgeWeight 43 = .ok (.iload_n 3, 1) := by decide +kernel
theorem dX7_setEdgeWeight_44 : decode cX7_setEdgeWeight 44 = .ok (.invokestatic 105, 3) := by decide +kernel
theorem dX7_setEdgeWeight_47 : decode cX7_setEdgeWeight 47 = .ok (.iload 5, 2) := by decide +kernel
theorem dX7_setEdgeWeight_49 : decode cX7_setEdgeWeight 49 = .ok (.ireturn, 1) := by decide +kernel
theorem dX7_setVertexWeight_0 : decode cX7_setVertexWeight 0 = .ok (.aload_n 0, 1) := by decide +kernel
theorem dX7_setVertexWeight_1 : decode cX7_setVertexWeight 1 = .ok (.iload_n 1, 1) := by decide +kernel
theorem dX7_setVertexWeight_2 : decode cX7_setVertexWeight 2 = .ok (.invokevirtual 128, 3) := by decide +kernel
theorem dX7_setVertexWeight_5 : decode cX7_setVertexWeight 5 = .ok (.ifCond .ne 5, 3) := by decide +kernel
theorem dX7_setVertexWeight_8 : decode cX7_setVertexWeight 8 = .ok (.iconst (-1), 1) := by decide +kernel
theorem dX7_setVertexWeight_9 : decode cX7_setVertexWeight 9 = .ok (.ireturn, 1) := by decide +kernel
theorem dX7_setVertexWeight_10 : decode cX7_setVertexWeight 10 = .ok (.iload_n 2, 1) := by decide +kernel
theorem dX7_setVertexWeight_11 : decode cX7_setVertexWeight 11 = .ok (.i2l, 1) := by decide +kernel
theorem dX7_setVertexWeight_12 : decode cX7_setVertexWeight 12 = .ok (.lconst 0, 1) := by decide +kernel
theorem dX7_setVertexWeight_13 : decode cX7_setVertexWeight 13 = .ok (.ldc2_w 135, 3) := by decide +kernel
theorem dX7_setVertexWeight_16 : decode cX7_setVertexWeight 16 = .ok (.invokestatic 60, 3) := by decide +kernel
theorem dX7_setVertexWeight_19 : decode cX7_setVertexWeight 19 = .ok (.ifCond .ne 6, 3) := by decide +kernel
theorem dX7_setVertexWeight_22 : decode cX7_setVertexWeight 22 = .ok (.bipush (-2), 2) := by decide +kernel
theorem dX7_setVertexWeight_24 : decode cX7_setVertexWeight 24 = .ok (.ireturn, 1) := by decide +kernel
theorem dX7_setVertexWeight_25 : decode cX7_setVertexWeight 25 = .ok (.aload_n 0, 1) := by decide +kernel
theorem dX7_setVertexWeight_26 : decode cX7_setVertexWeight 26 = .ok (.invokevirtual 141, 3) := by decide +kernel
theorem dX7_setVertexWeight_29 : decode cX7_setVertexWeight 29 = .ok (.aload_n 0, 1) := by decide +kernel
theorem dX7_setVertexWeight_30 : decode cX7_setVertexWeight 30 = .ok (.getfield 13, 3) := by decide +kernel
theorem dX7_setVertexWeight_33 : decode cX7_setVertexWeight 33 = .ok (.iload_n 1, 1) := by decide +kernel
theorem dX7_setVertexWeight_34 : decode cX7_setVertexWeight 34 = .ok (.iaload, 1) := by decide +kernel
theorem dX7_setVertexWeight_35 : decode cX7_setVertexWeight 35 = .ok (.istore_n 3, 1) := by decide +kernel
theorem dX7_setVertexWeight_36 : decode cX7_setVertexWeight 36 = .ok (.aload_n 0, 1) := by decide +kernel
theorem dX7_setVertexWeight_37 : decode cX7_setVertexWeight 37 = .ok (.getfield 13, 3) := by decide +kernel
theorem dX7_setVertexWeight_40 : decode cX7_setVertexWeight 40 = .ok (.iload_n 1, 1) := by decide +kernel
theorem dX7_setVertexWeight_41 : decode cX7_setVertexWeight 41 = .ok (.iload_n 2, 1) := by decide +kernel
theorem dX7_setVertexWeight_42 : decode cX7_setVertexWeight 42 = .ok (.iastore, 1) := by decide +kernel
theorem dX7_setVertexWeight_43 : decode cX7_setVertexWeight 43 = .ok (.iload_n 3, 1) := by decide +kernel
theorem dX7_setVertexWeight_44 : decode cX7_setVertexWeight 44 = .ok (.ireturn, 1) := by decide +kernel
theorem dX7_undo_0 : decode cX7_undo 0 = .ok (.aload_n 0, 1) := by decide +kernel
theorem dX7_undo_1 : decode cX7_undo 1 = .ok (.getfield 121, 3) := by decide +kernel
theorem dX7_undo_4 : decode cX7_undo 4 = .ok (.ifCond .ne 6, 3) := by decide +kernel
theorem dX7_undo_7 : decode cX7_undo 7 = .ok (.bipush (-3), 2) := by decide +kernel
theorem dX7_undo_9 : decode cX7_undo 9 = .ok (.ireturn, 1) := by decide +kernel
theorem dX7_undo_10 : decode cX7_undo 10 = .ok (.aload_n 0, 1) := by decide +kernel
theorem dX7_undo_11 : decode cX7_undo 11 = .ok (.dup, 1) := by decide +kernel
theorem dX7_undo_12 : decode cX7_undo 12 = .ok (.getfield 121, 3) := by decide +kernel
theorem dX7_undo_15 : decode cX7_undo 15 = .ok (.iconst 1, 1) := by decide +kernel
theorem dX7_undo_16 : decode cX7_undo 16 = .ok (.isub, 1) := by decide +kernel
theorem dX7_undo_17 : decode cX7_undo 17 = .ok (.putfield 121, 3) := by decide +kernel
theorem dX7_undo_20 : decode cX7_undo 20 = .ok (.aload_n 0, 1) := by decide +kernel
theorem dX7_undo_21 : decode cX7_undo 21 = .ok (.aload_n 0, 1) := by decide +kernel
theorem dX7_undo_22 : decode cX7_undo 22 = .ok (.getfield 132, 3) := by decide +kernel
theorem dX7_undo_25 : decode cX7_undo 25 = .ok (.bipush 14, 2) := by decide +kernel
theorem dX7_undo_27 : decode cX7_undo 27 = .ok (.iadd, 1) := by decide +kernel
theorem dX7_undo_28 : decode cX7_undo 28 = .ok (.iconst 1, 1) := by decide +kernel
theorem dX7_undo_29 : decode cX7_undo 29 = .ok (.isub, 1) := by decide +kernel
theorem dX7_undo_30 : decode cX7_undo 30 = .ok (.bipush 14, 2) := by decide +kernel
theorem dX7_undo_32 : decode cX7_undo 32 = .ok (.irem, 1) := by decide +kernel
theorem dX7_undo_33 : decode cX7_undo 33 = .ok (.putfield 132, 3) := by decide +kernel
theorem dX7_undo_36 : decode cX7_undo 36 = .ok (.iconst 0, 1) := by decide +kernel
theorem dX7_undo_37 : decode cX7_undo 37 = .ok (.istore_n 1, 1) := by decide +kernel
theorem dX7_undo_38 : decode cX7_undo 38 = .ok (.iload_n 1, 1) := by decide +kernel
theorem dX7_undo_39 : decode cX7_undo 39 = .ok (.sipush 156, 3) := by decide +kernel
theorem dX7_undo_42 : decode cX7_undo 42 = .ok (.if_icmp .ge 30, 3) := by decide +kernel
theorem dX7_undo_45 : decode cX7_undo 45 = .ok (.aload_n 0, 1) := by decide +kernel
theorem dX7_undo_46 : decode cX7_undo 46 = .ok (.getfield 13, 3) := by decide +kernel
theorem dX7_undo_49 : decode cX7_undo 49 = .ok (.iload_n 1, 1) := by decide +kernel
theorem dX7_undo_50 : decode cX7_undo 50 = .ok (.aload_n 0, 1) := by decide +kernel
theorem dX7_undo_51 : decode cX7_undo 51 = .ok (.getfield 22, 3) := by decide +kernel
theorem dX7_undo_54 : decode cX7_undo 54 = .ok (.sipush 156, 3) := by decide +kernel
theorem dX7_undo_57 : decode cX7_undo 57 = .ok (.aload_n 0, 1) := by decide +kernel
theorem dX7_undo_58 : decode cX7_undo 58 = .ok (.getfield 132, 3) := by decide +kernel
theorem dX7_undo_61 : decode cX7_undo 61 = .ok (.imul, 1) := by decide +kernel
theorem dX7_undo_62 : decode cX7_undo 62 = .ok (.iload_n 1, 1) := by decide +kernel
theorem dX7_undo_63 : decode cX7_undo 63 = .ok (.iadd, 1) := by decide +kernel
theorem dX7_undo_64 : decode cX7_undo 64 = .ok (.iaload, 1) := by decide +kernel
theorem dX7_undo_65 : decode cX7_undo 65 = .ok (.iastore, 1) := by decide +kernel
theorem dX7_undo_66 : decode cX7_undo 66 = .ok (.iinc 1 1, 3) := by decide +kernel
theorem dX7_undo_69 : decode cX7_undo 69 = .ok (.goto (-31), 3) := by decide +kernel
theorem dX7_undo_72 : decode cX7_undo 72 = .ok (.aload_n 0, 1) := by decide +kernel
theorem dX7_undo_73 : decode cX7_undo 73 = .ok (.getfield 121, 3) := by decide +kernel
theorem dX7_undo_76 : decode cX7_undo 76 = .ok (.ireturn, 1) := by decide +kernel
theorem dX7_distance_0 : decode cX7_distance 0 = .ok (.aload_n 0, 1) := by decide +kernel
theorem dX7_distance_1 : decode cX7_distance 1 = .ok (.iload_n 1, 1) := by decide +kernel
theorem dX7_distance_2 : decode cX7_distance 2 = .ok (.invokevirtual 128, 3) := by decide +kernel
theorem dX7_distance_5 : decode cX7_distance 5 = .ok (.ifCond .eq 24, 3) := by decide +kernel
theorem dX7_distance_8 : decode cX7_distance 8 = .ok (.aload_n 0, 1) := by decide +kernel
theorem dX7_distance_9 : decode cX7_distance 9 = .ok (.iload_n 2, 1) := by decide +kernel
theorem dX7_distance_10 : decode cX7_distance 10 = .ok (.invokevirtual 128, 3) := by decide +kernel
theorem dX7_distance_13 : decode cX7_distance 13 = .ok (.ifCond .eq 16, 3) := by decide +kernel
theorem dX7_distance_16 : decode cX7_distance 16 = .ok (.aload_n 0, 1) := by decide +kernel
theorem dX7_distance_17 : decode cX7_distance 17 = .ok (.aload_n 0, 1) := by decide +kernel
theorem dX7_distance_18 : decode cX7_distance 18 = .ok (.getfield 13, 3) := by decide +kernel
theorem dX7_distance_21 : decode cX7_distance 21 = .ok (.iload_n 1, 1) := by decide +kernel
theorem dX7_distance_22 : decode cX7_distance 22 = .ok (.iload_n 2, 1) := by decide +kernel
theorem dX7_distance_23 : decode cX7_distance 23 = .ok (.invokevirtual 72, 3) := by decide +kernel
theorem dX7_distance_26 : decode cX7_distance 26 = .ok (.goto 4, 3) := by decide +kernel
theorem dX7_distance_29 : decode cX7_distance 29 = .ok (.iconst (-1), 1) := by decide +kernel
theorem dX7_distance_30 : decode cX7_distance 30 = .ok (.ireturn, 1) := by decide +kernel
theorem dX7_pathVertex_0 : decode cX7_pathVertex 0 = .ok (.aload_n 0, 1) := by decide +kernel
theorem dX7_pathVertex_1 : decode cX7_pathVertex 1 = .ok (.iload_n 1, 1) := by decide +kernel
theorem dX7_pathVertex_2 : decode cX7_pathVertex 2 = .ok (.invokevirtual 128, 3) := by decide +kernel
theorem dX7_pathVertex_5 : decode cX7_pathVertex 5 = .ok (.ifCond .eq 11, 3) := by decide +kernel
theorem dX7_pathVertex_8 : decode cX7_pathVertex 8 = .ok (.aload_n 0, 1) := by decide +kernel
theorem dX7_pathVertex_9 : decode cX7_pathVertex 9 = .ok (.iload_n 2, 1) := by decide +kernel
theorem dX7_pathVertex_10 : decode cX7_pathVertex 10 = .ok (.invokevirtual 128, 3) := by decide +kernel
theorem dX7_pathVertex_13 : decode cX7_pathVertex 13 = .ok (.ifCond .ne 5, 3) := by decide +kernel
theorem dX7_pathVertex_16 : decode cX7_pathVertex 16 = .ok (.iconst (-1), 1) := by decide +kernel
theorem dX7_pathVertex_17 : decode cX7_pathVertex 17 = .ok (.ireturn, 1) := by decide +kernel
theorem dX7_pathVertex_18 : decode cX7_pathVertex 18 = .ok (.iload_n 3, 1) := by decide +kernel
theorem dX7_pathVertex_19 : decode cX7_pathVertex 19 = .ok (.ifCond .ge 6, 3) := by decide +kernel
theorem dX7_pathVertex_22 : decode cX7_pathVertex 22 = .ok (.bipush (-2), 2) := by decide +kernel
theorem dX7_pathVertex_24 : decode cX7_pathVertex 24 = .ok (.ireturn, 1) := by decide +kernel
theorem dX7_pathVertex_25 : decode cX7_pathVertex 25 = .ok (.aload_n 0, 1) := by decide +kernel
theorem dX7_pathVertex_26 : decode cX7_pathVertex 26 = .ok (.aload_n 0, 1) := by decide +kernel
theorem dX7_pathVertex_27 : decode cX7_pathVertex 27 = .ok (.getfield 13, 3) := by decide +kernel
theorem dX7_pathVertex_30 : decode cX7_pathVertex 30 = .ok (.iload_n 2, 1) := by decide +kernel
theorem dX7_pathVertex_31 : decode cX7_pathVertex 31 = .ok (.invokevirtual 68, 3) := by decide +kernel
theorem dX7_pathVertex_34 : decode cX7_pathVertex 34 = .ok (.aload_n 0, 1) := by decide +kernel
theorem dX7_pathVertex_35 : decode cX7_pathVertex 35 = .ok (.getfield 35, 3) := by decide +kernel
theorem dX7_pathVertex_38 : decode cX7_pathVertex 38 = .ok (.iload_n 1, 1) := by decide +kernel
theorem dX7_pathVertex_39 : decode cX7_pathVertex 39 = .ok (.iaload, 1) := by decide +kernel
theorem dX7_pathVertex_40 : decode cX7_pathVertex 40 = .ok (.bipush (-9), 2) := by decide +kernel
theorem dX7_pathVertex_42 : decode cX7_pathVertex 42 = .ok (.if_icmp .eq 13, 3) := by decide +kernel
theorem dX7_pathVertex_45 : decode cX7_pathVertex 45 = .ok (.iload_n 3, 1) := by decide +kernel
theorem dX7_pathVertex_46 : decode cX7_pathVertex 46 = .ok (.aload_n 0, 1) := by decide +kernel
theorem dX7_pathVertex_47 : decode cX7_pathVertex 47 = .ok (.getfield 38, 3) := by decide +kernel
theorem dX7_pathVertex_50 : decode cX7_pathVertex 50 = .ok (.iload_n 1, 1) := by decide +kernel
theorem dX7_pathVertex_51 : decode cX7_pathVertex 51 = .ok (.iaload, 1) := by decide +kernel
theorem dX7_pathVertex_52 : decode cX7_pathVertex 52 = .ok (.if_icmp .le 6, 3) := by decide +kernel
theorem dX7_pathVertex_55 : decode cX7_pathVertex 55 = .ok (.bipush (-9), 2) := by decide +kernel
theorem dX7_pathVertex_57 : decode cX7_pathVertex 57 = .ok (.ireturn, 1) := by decide +kernel
theorem dX7_pathVertex_58 : decode cX7_pathVertex 58 = .ok (.iload_n 1, 1) := by decide +kernel
theorem dX7_pathVertex_59 : decode cX7_pathVertex 59 = .ok (.istore 4, 2) := by decide +kernel
theorem dX7_pathVertex_61 : decode cX7_pathVertex 61 = .ok (.iconst 0, 1) := by decide +kernel
theorem dX7_pathVertex_62 : decode cX7_pathVertex 62 = .ok (.istore 5, 2) := by decide +kernel
theorem dX7_pathVertex_64 : decode cX7_pathVertex 64 = .ok (.iload 5, 2) := by decide +kernel
theorem dX7_pathVertex_66 : decode cX7_pathVertex 66 = .ok (.iload_n 3, 1) := by decide +kernel
theorem dX7_pathVertex_67 : decode cX7_pathVertex 67 = .ok (.if_icmp .ge 78, 3) := by decide +kernel
theorem dX7_pathVertex_70 : decode cX7_pathVertex 70 = .ok (.bipush (-9), 2) := by decide +kernel
theorem dX7_pathVertex_72 : decode cX7_pathVertex 72 = .ok (.istore 6, 2) := by decide +kernel
theorem dX7_pathVertex_74 : decode cX7_pathVertex 74 = .ok (.iconst 0, 1) := by decide +kernel
theorem dX7_pathVertex_75 : decode cX7_pathVertex 75 = .ok (.istore 7, 2) := by decide +kernel
theorem dX7_pathVertex_77 : decode cX7_pathVertex 77 = .ok (.iload 7, 2) := by decide +kernel
theorem dX7_pathVertex_79 : decode cX7_pathVertex 79 = .ok (.aload_n 0, 1) := by decide +kernel
theorem dX7_pathVertex_80 : decode cX7_pathVertex 80 = .ok (.getfield 56, 3) := by decide +kernel
theorem dX7_pathVertex_83 : decode cX7_pathVertex 83 = .ok (.if_icmp .ge 52, 3) := by decide +kernel
theorem dX7_pathVertex_86 : decode cX7_pathVertex 86 = .ok (.aload_n 0, 1) := by decide +kernel
theorem dX7_pathVertex_87 : decode cX7_pathVertex 87 = .ok (.getfield 13, 3) := by decide +kernel
theorem dX7_pathVertex_90 : decode cX7_pathVertex 90 = .ok (.iload 4, 2) := by decide +kernel
theorem dX7_pathVertex_92 : decode cX7_pathVertex 92 = .ok (.iload 7, 2) := by decide +kernel
theorem dX7_pathVertex_94 : decode cX7_pathVertex 94 = .ok (.invokestatic 64, 3) := by decide +kernel
theorem dX7_pathVertex_97 : decode cX7_pathVertex 97 = .ok (.iaload, 1) := by decide +kernel
theorem dX7_pathVertex_98 : decode cX7_pathVertex 98 = .ok (.ifCond .le 27, 3) := by decide +kernel
theorem dX7_pathVertex_101 : decode cX7_pathVertex 101 = .ok (.aload_n 0, 1) := by decide +kernel
theorem dX7_pathVertex_102 : decode cX7_pathVertex 102 = .ok (.getfield 38, 3) := by decide +kernel
theorem dX7_pathVertex_105 : decode cX7_pathVertex 105 = .ok (.iload 7, 2) := by decide +kernel
theorem dX7_pathVertex_107 : decode cX7_pathVertex 107 = .ok (.iaload, 1) := by decide +kernel
theorem dX7_pathVertex_108 : decode cX7_pathVertex 108 = .ok (.aload_n 0, 1) := by decide +kernel
theorem dX7_pathVertex_109 : decode cX7_pathVertex 109 = .ok (.getfield 38, 3) := by decide +kernel
theorem dX7_pathVertex_112 : decode cX7_pathVertex 112 = .ok (.iload 4, 2) := by decide +kernel
theorem dX7_pathVertex_114 : decode cX7_pathVertex 114 = .ok (.iaload, 1) := by decide +kernel
theorem dX7_pathVertex_115 : decode cX7_pathVertex 115 = .ok (.iconst 1, 1) := by decide +kernel
theorem dX7_pathVertex_116 : decode cX7_pathVertex 116 = .ok (.isub, 1) := by decide +kernel
theorem dX7_pathVertex_117 : decode cX7_pathVertex 117 = .ok (.if_icmp .ne 8, 3) := by decide +kernel
theorem dX7_pathVertex_120 : decode cX7_pathVertex 120 = .ok (.iload 7, 2) := by decide +kernel
theorem dX7_pathVertex_122 : decode cX7_pathVertex 122 = .ok (.goto 5, 3) := by decide +kernel
theorem dX7_pathVertex_125 : decode cX7_pathVertex 125 = .ok (.iload 6, 2) := by decide +kernel
theorem dX7_pathVertex_127 : decode cX7_pathVertex 127 = .ok (.istore 6, 2) := by decide +kernel
theorem dX7_pathVertex_129 : decode cX7_pathVertex 129 = .ok (.iinc 7 1, 3) := by decide +kernel
theorem dX7_pathVertex_132 : decode cX7_pathVertex 132 = .ok (.goto (-55), 3) := by decide +kernel
theorem dX7_pathVertex_135 : decode cX7_pathVertex 135 = .ok (.iload 6, 2) := by decide +kernel
theorem dX7_pathVertex_137 : decode cX7_pathVertex 137 = .ok (.istore 4, 2) := by decide +kernel
theorem dX7_pathVertex_139 : decode cX7_pathVertex 139 = .ok (.iinc 5 1, 3) := by decide +kernel
theorem dX7_pathVertex_142 : decode cX7_pathVertex 142 = .ok (.goto (-78), 3) := by decide +kernel
theorem dX7_pathVertex_145 : decode cX7_pathVertex 145 = .ok (.iload 4, 2) := by decide +kernel
theorem dX7_pathVertex_147 : decode cX7_pathVertex 147 = .ok (.ireturn, 1) := by decide +kernel
theorem dX7_eccentricity_0 : decode cX7_eccentricity 0 = .ok (.aload_n 0, 1) := by decide +kernel
theorem dX7_eccentricity_1 : decode cX7_eccentricity 1 = .ok (.iload_n 1, 1) := by decide +kernel
theorem dX7_eccentricity_2 : decode cX7_eccentricity 2 = .ok (.invokevirtual 128, 3) := by decide +kernel
theorem dX7_eccentricity_5 : decode cX7_eccentricity 5 = .ok (.ifCond .eq 15, 3) := by decide +kernel
theorem dX7_eccentricity_8 : decode cX7_eccentricity 8 = .ok (.aload_n 0, 1) := by decide +kernel
theorem dX7_eccentricity_9 : decode cX7_eccentricity 9 = .ok (.aload_n 0, 1) := by decide +kernel
theorem dX7_eccentricity_10 : decode cX7_eccentricity 10 = .ok (.getfield 13, 3) := by decide +kernel
theorem dX7_eccentricity_13 : decode cX7_eccentricity 13 = .ok (.iload_n 1, 1) := by decide +kernel
theorem dX7_eccentricity_14 : decode cX7_eccentricity 14 = .ok (.invokevirtual 76, 3) := by decide +kernel
theorem dX7_eccentricity_17 : decode cX7_eccentricity 17 = .ok (.goto 4, 3) := by decide +kernel
theorem dX7_eccentricity_20 : decode cX7_eccentricity 20 = .ok (.iconst (-1), 1) := by decide +kernel
theorem dX7_eccentricity_21 : decode cX7_eccentricity 21 = .ok (.ireturn, 1) := by decide +kernel
theorem dX7_diameter_0 : decode cX7_diameter 0 = .ok (.aload_n 0, 1) := by decide +kernel
theorem dX7_diameter_1 : decode cX7_diameter 1 = .ok (.iload_n 1, 1) := by decide +kernel
theorem dX7_diameter_2 : decode cX7_diameter 2 = .ok (.invokevirtual 128, 3) := by decide +kernel
theorem dX7_diameter_5 : decode cX7_diameter 5 = .ok (.ifCond .eq 15, 3) := by decide +kernel
theorem dX7_diameter_8 : decode cX7_diameter 8 = .ok (.aload_n 0, 1) := by decide +kernel
theorem dX7_diameter_9 : decode cX7_diameter 9 = .ok (.aload_n 0, 1) := by decide +kernel
theorem dX7_diameter_10 : decode cX7_diameter 10 = .ok (.getfield 13, 3) := by decide +kernel
theorem dX7_diameter_13 : decode cX7_diameter 13 = .ok (.iload_n 1, 1) := by decide +kernel
theorem dX7_diameter_14 : decode cX7_diameter 14 = .ok (.invokevirtual 147, 3) := by decide +kernel
theorem dX7_diameter_17 : decode cX7_diameter 17 = .ok (.goto 4, 3) := by decide +kernel
theorem dX7_diameter_20 : decode cX7_diameter 20 = .ok (.iconst (-1), 1) := by decide +kernel
theorem dX7_diameter_21 : decode cX7_diameter 21 = .ok (.ireturn, 1) := by decide +kernel
theorem dX7_diameterEnd_0 : decode cX7_diameterEnd 0 = .ok (.aload_n 0, 1) := by decide +kernel
theorem dX7_diameterEnd_1 : decode cX7_diameterEnd 1 = .ok (.iload_n 1, 1) := by decide +kernel
theorem dX7_diameterEnd_2 : decode cX7_diameterEnd 2 = .ok (.invokevirtual 128, 3) := by decide +kernel
theorem dX7_diameterEnd_5 : decode cX7_diameterEnd 5 = .ok (.ifCond .ne 5, 3) := by decide +kernel
theorem dX7_diameterEnd_8 : decode cX7_diameterEnd 8 = .ok (.iconst (-1), 1) := by decide +kernel
theorem dX7_diameterEnd_9 : decode cX7_diameterEnd 9 = .ok (.ireturn, 1) := by decide +kernel
theorem dX7_diameterEnd_10 : decode cX7_diameterEnd 10 = .ok (.iload_n 2, 1) := by decide +kernel
theorem dX7_diameterEnd_11 : decode cX7_diameterEnd 11 = .ok (.i2l, 1) := by decide +kernel
theorem dX7_diameterEnd_12 : decode cX7_diameterEnd 12 = .ok (.lconst 0, 1) := by decide +kernel
theorem dX7_diameterEnd_13 : decode cX7_diameterEnd 13 = .ok (.lconst 1, 1) := by decide +kernel
theorem dX7_diameterEnd_14 : decode cX7_diameterEnd 14 = .ok (.invokestatic 60, 3) := by decide +kernel
theorem dX7_diameterEnd_17 : decode cX7_diameterEnd 17 = .ok (.ifCond .ne 6, 3) := by decide +kernel
theorem dX7_diameterEnd_20 : decode cX7_diameterEnd 20 = .ok (.bipush (-2), 2) := by decide +kernel
theorem dX7_diameterEnd_22 : decode cX7_diameterEnd 22 = .ok (.ireturn, 1) := by decide +kernel
theorem dX7_diameterEnd_23 : decode cX7_diameterEnd 23 = .ok (.aload_n 0, 1) := by decide +kernel
theorem dX7_diameterEnd_24 : decode cX7_diameterEnd 24 = .ok (.aload_n 0, 1) := by decide +kernel
theorem dX7_diameterEnd_25 : decode cX7_diameterEnd 25 = .ok (.getfield 13, 3) := by decide +kernel
theorem dX7_diameterEnd_28 : decode cX7_diameterEnd 28 = .ok (.iload_n 1, 1) := by decide +kernel
theorem dX7_diameterEnd_29 : decode cX7_diameterEnd 29 = .ok (.invokevirtual 147, 3) := by decide +kernel
theorem dX7_diameterEnd_32 : decode cX7_diameterEnd 32 = .ok (.istore_n 3, 1) := by decide +kernel
theorem dX7_diameterEnd_33 : decode cX7_diameterEnd 33 = .ok (.iconst 0, 1) := by decide +kernel
theorem dX7_diameterEnd_34 : decode cX7_diameterEnd 34 = .ok (.istore 4, 2) := by decide +kernel
theorem dX7_diameterEnd_36 : decode cX7_diameterEnd 36 = .ok (.iload 4, 2) := by decide +kernel
theorem dX7_diameterEnd_38 : decode cX7_diameterEnd 38 = .ok (.aload_n 0, 1) := by decide +kernel
theorem dX7_diameterEnd_39 : decode cX7_diameterEnd 39 = .ok (.getfield 56, 3) := by decide +kernel
theorem dX7_diameterEnd_42 : decode cX7_diameterEnd 42 = .ok (.if_icmp .ge 72, 3) := by decide +kernel
theorem dX7_diameterEnd_45 : decode cX7_diameterEnd 45 = .ok (.aload_n 0, 1) := by decide +kernel
theorem dX7_diameterEnd_46 : decode cX7_diameterEnd 46 = .ok (.aload_n 0, 1) := by decide +kernel
theorem dX7_diameterEnd_47 : decode cX7_diameterEnd 47 = .ok (.getfield 13, 3) := by decide +kernel
theorem dX7_diameterEnd_50 : decode cX7_diameterEnd 50 = .ok (.iload 4, 2) := by decide +kernel
theorem dX7_diameterEnd_52 : decode cX7_diameterEnd 52 = .ok (.invokevirtual 68, 3) := by decide +kernel
theorem dX7_diameterEnd_55 : decode cX7_diameterEnd 55 = .ok (.iload 4, 2) := by decide +kernel
theorem dX7_diameterEnd_57 : decode cX7_diameterEnd 57 = .ok (.istore 5, 2) := by decide +kernel
theorem dX7_diameterEnd_59 : decode cX7_diameterEnd 59 = .ok (.iload 5, 2) := by decide +kernel
theorem dX7_diameterEnd_61 : decode cX7_diameterEnd 61 = .ok (.aload_n 0, 1) := by decide +kernel
theorem dX7_diameterEnd_62 : decode cX7_diameterEnd 62 = .ok (.getfield 56, 3) := by decide +kernel
theorem dX7_diameterEnd_65 : decode cX7_diameterEnd 65 = .ok (.if_icmp .ge 43, 3) := by decide +kernel
theorem dX7_diameterEnd_68 : decode cX7_diameterEnd 68 = .ok (.aload_n 0, 1) := by decide +kernel
theorem dX7_diameterEnd_69 : decode cX7_diameterEnd 69 = .ok (.getfield 35, 3) := by decide +kernel
theorem dX7_diameterEnd_72 : decode cX7_diameterEnd 72 = .ok (.iload_n 1, 1) := by decide +kernel
theorem dX7_diameterEnd_73 : decode cX7_diameterEnd 73 = .ok (.iaload, 1) := by decide +kernel
theorem dX7_diameterEnd_74 : decode cX7_diameterEnd 74 = .ok (.bipush (-9), 2) := by decide +kernel
theorem dX7_diameterEnd_76 : decode cX7_diameterEnd 76 = .ok (.if_icmp .eq 32, 3) := by decide +kernel
theorem dX7_diameterEnd_79 : decode cX7_diameterEnd 79 = .ok (.aload_n 0, 1) := by decide +kernel
theorem dX7_diameterEnd_80 : decode cX7_diameterEnd 80 = .ok (.getfield 35, 3) := by decide +kernel
theorem dX7_diameterEnd_83 : decode cX7_diameterEnd 83 = .ok (.iload 5, 2) := by decide +kernel
theorem dX7_diameterEnd_85 : decode cX7_diameterEnd 85 = .ok (.iaload, 1) := by decide +kernel
theorem dX7_diameterEnd_86 : decode cX7_diameterEnd 86 = .ok (.iload_n 3, 1) := by decide +kernel
theorem dX7_diameterEnd_87 : decode cX7_diameterEnd 87 = .ok (.if_icmp .ne 15, 3) := by decide +kernel
theorem dX7_diameterEnd_90 : decode cX7_diameterEnd 90 = .ok (.iload_n 2, 1) := by decide +kernel
theorem dX7_diameterEnd_91 : decode cX7_diameterEnd 91 = .ok (.ifCond .ne 8, 3) := by decide +kernel
theorem dX7_diameterEnd_94 : decode cX7_diameterEnd 94 = .ok (.iload 4, 2) := by decide +kernel
theorem dX7_diameterEnd_96 : decode cX7_diameterEnd 96 = .ok (.goto 5, 3) := by decide +kernel
theorem dX7_diameterEnd_99 : decode cX7_diameterEnd 99 = .ok (.iload 5, 2) := by decide +kernel
theorem dX7_diameterEnd_101 : decode cX7_diameterEnd 101 = .ok (.ireturn, 1) := by decide +kernel
theorem dX7_diameterEnd_102 : decode cX7_diameterEnd 102 = .ok (.iinc 5 1, 3) := by decide +kernel
theorem dX7_diameterEnd_105 : decode cX7_diameterEnd 105 = .ok (.goto (-46), 3) := by decide +kernel
theorem dX7_diameterEnd_108 : decode cX7_diameterEnd 108 = .ok (.iinc 4 1, 3) := by decide +kernel
theorem dX7_diameterEnd_111 : decode cX7_diameterEnd 111 = .ok (.goto (-75), 3) := by decide +kernel
theorem dX7_diameterEnd_114 : decode cX7_diameterEnd 114 = .ok (.bipush (-9), 2) := by decide +kernel
theorem dX7_diameterEnd_116 : decode cX7_diameterEnd 116 = .ok (.ireturn, 1) := by decide +kernel
theorem dX7_centre_0 : decode cX7_centre 0 = .ok (.aload_n 0, 1) := by decide +kernel
theorem dX7_centre_1 : decode cX7_centre 1 = .ok (.iload_n 1, 1) := by decide +kernel
theorem dX7_centre_2 : decode cX7_centre 2 = .ok (.invokevirtual 128, 3) := by decide +kernel
theorem dX7_centre_5 : decode cX7_centre 5 = .ok (.ifCond .eq 16, 3) := by decide +kernel
theorem dX7_centre_8 : decode cX7_centre 8 = .ok (.aload_n 0, 1) := by decide +kernel
theorem dX7_centre_9 : decode cX7_centre 9 = .ok (.aload_n 0, 1) := by decide +kernel
theorem dX7_centre_10 : decode cX7_centre 10 = .ok (.getfield 13, 3) := by decide +kernel
theorem dX7_centre_13 : decode cX7_centre 13 = .ok (.iload_n 1, 1) := by decide +kernel
theorem dX7_centre_14 : decode cX7_centre 14 = .ok (.iconst 0, 1) := by decide +kernel
theorem dX7_centre_15 : decode cX7_centre 15 = .ok (.invokevirtual 150, 3) := by decide +kernel
theorem dX7_centre_18 : decode cX7_centre 18 = .ok (.goto 4, 3) := by decide +kernel
theorem dX7_centre_21 : decode cX7_centre 21 = .ok (.iconst (-1), 1) := by decide +kernel
theorem dX7_centre_22 : decode cX7_centre 22 = .ok (.ireturn, 1) := by decide +kernel
theorem dX7_median_0 : decode cX7_median 0 = .ok (.aload_n 0, 1) := by decide +kernel
theorem dX7_median_1 : decode cX7_median 1 = .ok (.iload_n 1, 1) := by decide +kernel
theorem dX7_median_2 : decode cX7_median 2 = .ok (.invokevirtual 128, 3) := by decide +kernel
theorem dX7_median_5 : decode cX7_median 5 = .ok (.ifCond .eq 16, 3) := by decide +kernel
theorem dX7_median_8 : decode cX7_median 8 = .ok (.aload_n 0, 1) := by decide +kernel
theorem dX7_median_9 : decode cX7_median 9 = .ok (.aload_n 0, 1) := by decide +kernel
theorem dX7_median_10 : decode cX7_median 10 = .ok (.getfield 13, 3) := by decide +kernel
theorem dX7_median_13 : decode cX7_median 13 = .ok (.iload_n 1, 1) := by decide +kernel
theorem dX7_median_14 : decode cX7_median 14 = .ok (.iconst 1, 1) := by decide +kernel
theorem dX7_median_15 : decode cX7_median 15 = .ok (.invokevirtual 150, 3) := by decide +kernel
theorem dX7_median_18 : decode cX7_median 18 = .ok (.goto 4, 3) := by decide +kernel
theorem dX7_median_21 : decode cX7_median 21 = .ok (.iconst (-1), 1) := by decide +kernel
theorem dX7_median_22 : decode cX7_median 22 = .ok (.ireturn, 1) := by decide +kernel
theorem dX7_cost_0 : decode cX7_cost 0 = .ok (.aload_n 0, 1) := by decide +kernel
theorem dX7_cost_1 : decode cX7_cost 1 = .ok (.iload_n 1, 1) := by decide +kernel
theorem dX7_cost_2 : decode cX7_cost 2 = .ok (.invokevirtual 128, 3) := by decide +kernel
theorem dX7_cost_5 : decode cX7_cost 5 = .ok (.ifCond .eq 15, 3) := by decide +kernel
theorem dX7_cost_8 : decode cX7_cost 8 = .ok (.aload_n 0, 1) := by decide +kernel
theorem dX7_cost_9 : decode cX7_cost 9 = .ok (.aload_n 0, 1) := by decide +kernel
theorem dX7_cost_10 : decode cX7_cost 10 = .ok (.getfield 13, 3) := by decide +kernel
theorem dX7_cost_13 : decode cX7_cost 13 = .ok (.iload_n 1, 1) := by decide +kernel
theorem dX7_cost_14 : decode cX7_cost 14 = .ok (.invokevirtual 80, 3) := by decide +kernel
theorem dX7_cost_17 : decode cX7_cost 17 = .ok (.goto 4, 3) := by decide +kernel
theorem dX7_cost_20 : decode cX7_cost 20 = .ok (.iconst (-1), 1) := by decide +kernel
theorem dX7_cost_21 : decode cX7_cost 21 = .ok (.ireturn, 1) := by decide +kernel
theorem dX7_liesBetween_0 : decode cX7_liesBetween 0 = .ok (.aload_n 0, 1) := by decide +kernel
theorem dX7_liesBetween_1 : decode cX7_liesBetween 1 = .ok (.aload_n 0, 1) := by decide +kernel
theorem dX7_liesBetween_2 : decode cX7_liesBetween 2 = .ok (.getfield 13, 3) := by decide +kernel
theorem dX7_liesBetween_5 : decode cX7_liesBetween 5 = .ok (.iload_n 2, 1) := by decide +kernel
theorem dX7_liesBetween_6 : decode cX7_liesBetween 6 = .ok (.iload_n 3, 1) := by decide +kernel
theorem dX7_liesBetween_7 : decode cX7_liesBetween 7 = .ok (.invokevirtual 72, 3) := by decide +kernel
theorem dX7_liesBetween_10 : decode cX7_liesBetween 10 = .ok (.istore 4, 2) := by decide +kernel
theorem dX7_liesBetween_12 : decode cX7_liesBetween 12 = .ok (.aload_n 0, 1) := by decide +kernel
theorem dX7_liesBetween_13 : decode cX7_liesBetween 13 = .ok (.aload_n 0, 1) := by decide +kernel
theorem dX7_liesBetween_14 : decode cX7_liesBetween 14 = .ok (.getfield 13, 3) := by decide +kernel
theorem dX7_liesBetween_17 : decode cX7_liesBetween 17 = .ok (.iload_n 1, 1) := by decide +kernel
theorem dX7_liesBetween_18 : decode cX7_liesBetween 18 = .ok (.invokevirtual 68, 3) := by decide +kernel
theorem dX7_liesBetween_21 : decode cX7_liesBetween 21 = .ok (.aload_n 0, 1) := by decide +kernel
theorem dX7_liesBetween_22 : decode cX7_liesBetween 22 = .ok (.getfield 35, 3) := by decide +kernel
theorem dX7_liesBetween_25 : decode cX7_liesBetween 25 = .ok (.iload_n 2, 1) := by decide +kernel
theorem dX7_liesBetween_26 : decode cX7_liesBetween 26 = .ok (.iaload, 1) := by decide +kernel
theorem dX7_liesBetween_27 : decode cX7_liesBetween 27 = .ok (.bipush (-9), 2) := by decide +kernel
theorem dX7_liesBetween_29 : decode cX7_liesBetween 29 = .ok (.if_icmp .eq 25, 3) := by decide +kernel
theorem dX7_liesBetween_32 : decode cX7_liesBetween 32 = .ok (.aload_n 0, 1) := by decide +kernel
theorem dX7_liesBetween_33 : decode cX7_liesBetween 33 = .ok (.getfield 35, 3) := by decide +kernel
theorem dX7_liesBetween_36 : decode cX7_liesBetween 36 = .ok (.iload_n 2, 1) := by decide +kernel
theorem dX7_liesBetween_37 : decode cX7_liesBetween 37 = .ok (.iaload, 1) := by decide +kernel
theorem dX7_liesBetween_38 : decode cX7_liesBetween 38 = .ok (.aload_n 0, 1) := by decide +kernel
theorem dX7_liesBetween_39 : decode cX7_liesBetween 39 = .ok (.getfield 35, 3) := by decide +kernel
theorem dX7_liesBetween_42 : decode cX7_liesBetween 42 = .ok (.iload_n 3, 1) := by decide +kernel
theorem dX7_liesBetween_43 : decode cX7_liesBetween 43 = .ok (.iaload, 1) := by decide +kernel
theorem dX7_liesBetween_44 : decode cX7_liesBetween 44 = .ok (.iadd, 1) := by decide +kernel
theorem dX7_liesBetween_45 : decode cX7_liesBetween 45 = .ok (.iload 4, 2) := by decide +kernel
theorem dX7_liesBetween_47 : decode cX7_liesBetween 47 = .ok (.if_icmp .ne 7, 3) := by decide +kernel
theorem dX7_liesBetween_50 : decode cX7_liesBetween 50 = .ok (.iconst 1, 1) := by decide +kernel
theorem dX7_liesBetween_51 : decode cX7_liesBetween 51 = .ok (.goto 4, 3) := by decide +kernel
theorem dX7_liesBetween_54 : decode cX7_liesBetween 54 = .ok (.iconst 0, 1) := by decide +kernel
theorem dX7_liesBetween_55 : decode cX7_liesBetween 55 = .ok (.ireturn, 1) := by decide +kernel
theorem dX7_meeting_0 : decode cX7_meeting 0 = .ok (.aload_n 0, 1) := by decide +kernel
theorem dX7_meeting_1 : decode cX7_meeting 1 = .ok (.iload_n 1, 1) := by decide +kernel
theorem dX7_meeting_2 : decode cX7_meeting 2 = .ok (.invokevirtual 128, 3) := by decide +kernel
theorem dX7_meeting_5 : decode cX7_meeting 5 = .ok (.ifCond .eq 19, 3) := by decide +kernel
theorem dX7_meeting_8 : decode cX7_meeting 8 = .ok (.aload_n 0, 1) := by decide +kernel
theorem dX7_meeting_9 : decode cX7_meeting 9 = .ok (.iload_n 2, 1) := by decide +kernel
theorem dX7_meeting_10 : decode cX7_meeting 10 = .ok (.invokevirtual 128, 3) := by decide +kernel
theorem dX7_meeting_13 : decode cX7_meeting 13 = .ok (.ifCond .eq 11, 3) := by decide +kernel
theorem dX7_meeting_16 : decode cX7_meeting 16 = .ok (.aload_n 0, 1) := by decide +kernel
theorem dX7_meeting_17 : decode cX7_meeting 17 = .ok (.iload_n 3, 1) := by decide +kernel
theorem dX7_meeting_18 : decode cX7_meeting 18 = .ok (.invokevirtual 128, 3) := by decide +kernel
theorem dX7_meeting_21 : decode cX7_meeting 21 = .ok (.ifCond .ne 5, 3) := by decide +kernel
theorem dX7_meeting_24 : decode cX7_meeting 24 = .ok (.iconst (-1), 1) := by decide +kernel
theorem dX7_meeting_25 : decode cX7_meeting 25 = .ok (.ireturn, 1) := by decide +kernel
theorem dX7_meeting_26 : decode cX7_meeting 26 = .ok (.aload_n 0, 1) := by decide +kernel
theorem dX7_meeting_27 : decode cX7_meeting 27 = .ok (.aload_n 0, 1) := by decide +kernel
theorem dX7_meeting_28 : decode cX7_meeting 28 = .ok (.getfield 13, 3) := by decide +kernel
theorem dX7_meeting_31 : decode cX7_meeting 31 = .ok (.iload_n 1, 1) := by decide +kernel
theorem dX7_meeting_32 : decode cX7_meeting 32 = .ok (.iload_n 2, 1) := by decide +kernel
theorem dX7_meeting_33 : decode cX7_meeting 33 = .ok (.invokevirtual 98, 3) := by decide +kernel
theorem dX7_meeting_36 : decode cX7_meeting 36 = .ok (.ifCond .eq 16, 3) := by decide +kernel
theorem dX7_meeting_39 : decode cX7_meeting 39 = .ok (.aload_n 0, 1) := by decide +kernel
theorem dX7_meeting_40 : decode cX7_meeting 40 = .ok (.aload_n 0, 1) := by decide +kernel
theorem dX7_meeting_41 : decode cX7_meeting 41 = .ok (.getfield 13, 3) := by decide +kernel
theorem dX7_meeting_44 : decode cX7_meeting 44 = .ok (.iload_n 1, 1) := by decide +kernel
theorem dX7_meeting_45 : decode cX7_meeting 45 = .ok (.iload_n 3, 1) := by decide +kernel
theorem dX7_meeting_46 : decode cX7_meeting 46 = .ok (.invokevirtual 98, 3) := by decide +kernel
theorem dX7_meeting_49 : decode cX7_meeting 49 = .ok (.ifCond .ne 6, 3) := by decide +kernel
theorem dX7_meeting_52 : decode cX7_meeting 52 = .ok (.bipush (-9), 2) := by decide +kernel
theorem dX7_meeting_54 : decode cX7_meeting 54 = .ok (.ireturn, 1) := by decide +kernel
theorem dX7_meeting_55 : decode cX7_meeting 55 = .ok (.iconst 0, 1) := by decide +kernel
theorem dX7_meeting_56 : decode cX7_meeting 56 = .ok (.istore 4, 2) := by decide +kernel
theorem dX7_meeting_58 : decode cX7_meeting 58 = .ok (.aload_n 0, 1) := by decide +kernel
theorem dX7_meeting_59 : decode cX7_meeting 59 = .ok (.iload 4, 2) := by decide +kernel
theorem dX7_meeting_61 : decode cX7_meeting 61 = .ok (.iload_n 1, 1) := by decide +kernel
theorem dX7_meeting_62 : decode cX7_meeting 62 = .ok (.iload_n 2, 1) := by decide +kernel
theorem dX7_meeting_63 : decode cX7_meeting 63 = .ok (.invokevirtual 154, 3) := by decide +kernel
theorem dX7_meeting_66 : decode cX7_meeting 66 = .ok (.ifCond .eq 25, 3) := by decide +kernel
theorem dX7_meeting_69 : decode cX7_meeting 69 = .ok (.aload_n 0, 1) := by decide +kernel
theorem dX7_meeting_70 : decode cX7_meeting 70 = .ok (.iload 4, 2) := by decide +kernel
theorem dX7_meeting_72 : decode cX7_meeting 72 = .ok (.iload_n 1, 1) := by decide +kernel
theorem dX7_meeting_73 : decode cX7_meeting 73 = .ok (.iload_n 3, 1) := by decide +kernel
theorem dX7_meeting_74 : decode cX7_meeting 74 = .ok (.invokevirtual 154, 3) := by decide +kernel
theorem dX7_meeting_77 : decode cX7_meeting 77 = .ok (.ifCond .eq 14, 3) := by decide +kernel
theorem dX7_meeting_80 : decode cX7_meeting 80 = .ok (.aload_n 0, 1) := by decide +kernel
theorem dX7_meeting_81 : decode cX7_meeting 81 = .ok (.iload 4, 2) := by decide +kernel
theorem dX7_meeting_83 : decode cX7_meeting 83 = .ok (.iload_n 2, 1) := by decide +kernel
theorem dX7_meeting_84 : decode cX7_meeting 84 = .ok (.iload_n 3, 1) := by decide +kernel
theorem dX7_meeting_85 : decode cX7_meeting 85 = .ok (.invokevirtual 154, 3) := by decide +kernel
theorem dX7_meeting_88 : decode cX7_meeting 88 = .ok (.ifCond .ne 9, 3) := by decide +kernel
theorem dX7_meeting_91 : decode cX7_meeting 91 = .ok (.iinc 4 1, 3) := by decide +kernel
theorem dX7_meeting_94 : decode cX7_meeting 94 = .ok (.goto (-36), 3) := by decide +kernel
theorem dX7_meeting_97 : decode cX7_meeting 97 = .ok (.iload 4, 2) := by decide +kernel
theorem dX7_meeting_99 : decode cX7_meeting 99 = .ok (.ireturn, 1) := by decide +kernel
theorem dX7_degreeOf_0 : decode cX7_degreeOf 0 = .ok (.iconst 0, 1) := by decide +kernel
theorem dX7_degreeOf_1 : decode cX7_degreeOf 1 = .ok (.istore_n 2, 1) := by decide +kernel
theorem dX7_degreeOf_2 : decode cX7_degreeOf 2 = .ok (.iconst 0, 1) := by decide +kernel
theorem dX7_degreeOf_3 : decode cX7_degreeOf 3 = .ok (.istore_n 3, 1) := by decide +kernel
theorem dX7_degreeOf_4 : decode cX7_degreeOf 4 = .ok (.iload_n 3, 1) := by decide +kernel
theorem dX7_degreeOf_5 : decode cX7_degreeOf 5 = .ok (.bipush 12, 2) := by decide +kernel
theorem dX7_degreeOf_7 : decode cX7_degreeOf 7 = .ok (.if_icmp .ge 31, 3) := by decide +kernel
theorem dX7_degreeOf_10 : decode cX7_degreeOf 10 = .ok (.iload_n 2, 1) := by decide +kernel
theorem dX7_degreeOf_11 : decode cX7_degreeOf 11 = .ok (.aload_n 0, 1) := by decide +kernel
theorem dX7_degreeOf_12 : decode cX7_degreeOf 12 = .ok (.getfield 44, 3) := by decide +kernel
theorem dX7_degreeOf_15 : decode cX7_degreeOf 15 = .ok (.bipush 12, 2) := by decide +kernel
theorem dX7_degreeOf_17 : decode cX7_degreeOf 17 = .ok (.iload_n 1, 1) := by decide +kernel
theorem dX7_degreeOf_18 : decode cX7_degreeOf 18 = .ok (.imul, 1) := by decide +kernel
theorem dX7_degreeOf_19 : decode cX7_degreeOf 19 = .ok (.iload_n 3, 1) := by decide +kernel
theorem dX7_degreeOf_20 : decode cX7_degreeOf 20 = .ok (.iadd, 1) := by decide +kernel
theorem dX7_degreeOf_21 : decode cX7_degreeOf 21 = .ok (.iaload, 1) := by decide +kernel
theorem dX7_degreeOf_22 : decode cX7_degreeOf 22 = .ok (.ifCond .le 7, 3) := by decide +kernel
theorem dX7_degreeOf_25 : decode cX7_degreeOf 25 = .ok (.iconst 1, 1) := by decide +kernel
theorem dX7_degreeOf_26 : decode cX7_degreeOf 26 = .ok (.goto 4, 3) := by decide +kernel
theorem dX7_degreeOf_29 : decode cX7_degreeOf 29 = .ok (.iconst 0, 1) := by decide +kernel
theorem dX7_degreeOf_30 : decode cX7_degreeOf 30 = .ok (.iadd, 1) := by decide +kernel
theorem dX7_degreeOf_31 : decode cX7_degreeOf 31 = .ok (.istore_n 2, 1) := by decide +kernel
theorem dX7_degreeOf_32 : decode cX7_degreeOf 32 = .ok (.iinc 3 1, 3) := by decide +kernel
theorem dX7_degreeOf_35 : decode cX7_degreeOf 35 = .ok (.goto (-31), 3) := by decide +kernel
theorem dX7_degreeOf_38 : decode cX7_degreeOf 38 = .ok (.iload_n 2, 1) := by decide +kernel
theorem dX7_degreeOf_39 : decode cX7_degreeOf 39 = .ok (.ireturn, 1) := by decide +kernel
theorem dX7_removeVertex_0 : decode cX7_removeVertex 0 = .ok (.aload_n 0, 1) := by decide +kernel
theorem dX7_removeVertex_1 : decode cX7_removeVertex 1 = .ok (.getfield 47, 3) := by decide +kernel
theorem dX7_removeVertex_4 : decode cX7_removeVertex 4 = .ok (.iload_n 1, 1) := by decide +kernel
theorem dX7_removeVertex_5 : decode cX7_removeVertex 5 = .ok (.iconst 0, 1) := by decide +kernel
theorem dX7_removeVertex_6 : decode cX7_removeVertex 6 = .ok (.bastore, 1) := by decide +kernel
theorem dX7_removeVertex_7 : decode cX7_removeVertex 7 = .ok (.aload_n 0, 1) := by decide +kernel
theorem dX7_removeVertex_8 : decode cX7_removeVertex 8 = .ok (.getfield 53, 3) := by decide +kernel
theorem dX7_removeVertex_11 : decode cX7_removeVertex 11 = .ok (.iload_n 1, 1) := by decide +kernel
theorem dX7_removeVertex_12 : decode cX7_removeVertex 12 = .ok (.iload_n 2, 1) := by decide +kernel
theorem dX7_removeVertex_13 : decode cX7_removeVertex 13 = .ok (.iastore, 1) := by decide +kernel
theorem dX7_removeVertex_14 : decode cX7_removeVertex 14 = .ok (.iconst 0, 1) := by decide +kernel
theorem dX7_removeVertex_15 : decode cX7_removeVertex 15 = .ok (.istore_n 3, 1) := by decide +kernel
theorem dX7_removeVertex_16 : decode cX7_removeVertex 16 = .ok (.iload_n 3, 1) := by decide +kernel
theorem dX7_removeVertex_17 : decode cX7_removeVertex 17 = .ok (.bipush 12, 2) := by decide +kernel
theorem dX7_removeVertex_19 : decode cX7_removeVertex 19 = .ok (.if_icmp .ge 33, 3) := by decide +kernel
theorem dX7_removeVertex_22 : decode cX7_removeVertex 22 = .ok (.aload_n 0, 1) := by decide +kernel
theorem dX7_removeVertex_23 : decode cX7_removeVertex 23 = .ok (.getfield 44, 3) := by decide +kernel
theorem dX7_removeVertex_26 : decode cX7_removeVertex 26 = .ok (.bipush 12, 2) := by decide +kernel
theorem dX7_removeVertex_28 : decode cX7_removeVertex 28 = .ok (.iload_n 1, 1) := by decide +kernel
theorem dX7_removeVertex_29 : decode cX7_removeVertex 29 = .ok (.imul, 1) := by decide +kernel
theorem dX7_removeVertex_30 : decode cX7_removeVertex 30 = .ok (.iload_n 3, 1) := by decide +kernel
theorem dX7_removeVertex_31 : decode cX7_removeVertex 31 = .ok (.iadd, 1) := by decide +kernel
theorem dX7_removeVertex_32 : decode cX7_removeVertex 32 = .ok (.iconst 0, 1) := by decide +kernel
theorem dX7_removeVertex_33 : decode cX7_removeVertex 33 = .ok (.iastore, 1) := by decide +kernel
theorem dX7_removeVertex_34 : decode cX7_removeVertex 34 = .ok (.aload_n 0, 1) := by decide +kernel
theorem dX7_removeVertex_35 : decode cX7_removeVertex 35 = .ok (.getfield 44, 3) := by decide +kernel
theorem dX7_removeVertex_38 : decode cX7_removeVertex 38 = .ok (.bipush 12, 2) := by decide +kernel
theorem dX7_removeVertex_40 : decode cX7_removeVertex 40 = .ok (.iload_n 3, 1) := by decide +kernel
theorem dX7_removeVertex_41 : decode cX7_removeVertex 41 = .ok (.imul, 1) := by decide +kernel
theorem dX7_removeVertex_42 : decode cX7_removeVertex 42 = .ok (.iload_n 1, 1) := by decide +kernel
theorem dX7_removeVertex_43 : decode cX7_removeVertex 43 = .ok (.iadd, 1) := by decide +kernel
theorem dX7_removeVertex_44 : decode cX7_removeVertex 44 = .ok (.iconst 0, 1) := by decide +kernel
theorem dX7_removeVertex_45 : decode cX7_removeVertex 45 = .ok (.iastore, 1) := by decide +kernel
theorem dX7_removeVertex_46 : decode cX7_removeVertex 46 = .ok (.iinc 3 1, 3) := by decide +kernel
theorem dX7_removeVertex_49 : decode cX7_removeVertex 49 = .ok (.goto (-33), 3) := by decide +kernel
theorem dX7_removeVertex_52 : decode cX7_removeVertex 52 = .ok (.return_, 1) := by decide +kernel
theorem dX7_neighbour_0 : decode cX7_neighbour 0 = .ok (.iload_n 2, 1) := by decide +kernel
theorem dX7_neighbour_1 : decode cX7_neighbour 1 = .ok (.iconst 1, 1) := by decide +kernel
theorem dX7_neighbour_2 : decode cX7_neighbour 2 = .ok (.iadd, 1) := by decide +kernel
theorem dX7_neighbour_3 : decode cX7_neighbour 3 = .ok (.istore_n 3, 1) := by decide +kernel
theorem dX7_neighbour_4 : decode cX7_neighbour 4 = .ok (.aload_n 0, 1) := by decide +kernel
theorem dX7_neighbour_5 : decode cX7_neighbour 5 = .ok (.getfield 44, 3) := by decide +kernel
theorem dX7_neighbour_8 : decode cX7_neighbour 8 = .ok (.bipush 12, 2) := by decide +kernel
theorem dX7_neighbour_10 : decode cX7_neighbour 10 = .ok (.iload_n 1, 1) := by decide +kernel
theorem dX7_neighbour_11 : decode cX7_neighbour 11 = .ok (.imul, 1) := by decide +kernel
theorem dX7_neighbour_12 : decode cX7_neighbour 12 = .ok (.iload_n 3, 1) := by decide +kernel
theorem dX7_neighbour_13 : decode cX7_neighbour 13 = .ok (.iadd, 1) := by decide +kernel
theorem dX7_neighbour_14 : decode cX7_neighbour 14 = .ok (.iaload, 1) := by decide +kernel
theorem dX7_neighbour_15 : decode cX7_neighbour 15 = .ok (.ifCond .ne 9, 3) := by decide +kernel
theorem dX7_neighbour_18 : decode cX7_neighbour 18 = .ok (.iinc 3 1, 3) := by decide +kernel
theorem dX7_neighbour_21 : decode cX7_neighbour 21 = .ok (.goto (-17), 3) := by decide +kernel
theorem dX7_neighbour_24 : decode cX7_neighbour 24 = .ok (.iload_n 3, 1) := by decide +kernel
theorem dX7_neighbour_25 : decode cX7_neighbour 25 = .ok (.ireturn, 1) := by decide +kernel
theorem dX7_many_0 : decode cX7_many 0 = .ok (.iconst 0, 1) := by decide +kernel
theorem dX7_many_1 : decode cX7_many 1 = .ok (.istore_n 1, 1) := by decide +kernel
theorem dX7_many_2 : decode cX7_many 2 = .ok (.iconst 0, 1) := by decide +kernel
theorem dX7_many_3 : decode cX7_many 3 = .ok (.istore_n 2, 1) := by decide +kernel
theorem dX7_many_4 : decode cX7_many 4 = .ok (.iload_n 2, 1) := by decide +kernel
theorem dX7_many_5 : decode cX7_many 5 = .ok (.bipush 12, 2) := by decide +kernel
theorem dX7_many_7 : decode cX7_many 7 = .ok (.if_icmp .ge 26, 3) := by decide +kernel
theorem dX7_many_10 : decode cX7_many 10 = .ok (.iload_n 1, 1) := by decide +kernel
theorem dX7_many_11 : decode cX7_many 11 = .ok (.aload_n 0, 1) := by decide +kernel
theorem dX7_many_12 : decode cX7_many 12 = .ok (.getfield 47, 3) := by decide +kernel
theorem dX7_many_15 : decode cX7_many 15 = .ok (.iload_n 2, 1) := by decide +kernel
theorem dX7_many_16 : decode cX7_many 16 = .ok (.baload, 1) := by decide +kernel
theorem dX7_many_17 : decode cX7_many 17 = .ok (.ifCond .eq 7, 3) := by decide +kernel
theorem dX7_many_20 : decode cX7_many 20 = .ok (.iconst 1, 1) := by decide +kernel
theorem dX7_many_21 : decode cX7_many 21 = .ok (.goto 4, 3) := by decide +kernel
theorem dX7_many_24 : decode cX7_many 24 = .ok (.iconst 0, 1) := by decide +kernel
theorem dX7_many_25 : decode cX7_many 25 = .ok (.iadd, 1) := by decide +kernel
theorem dX7_many_26 : decode cX7_many 26 = .ok (.istore_n 1, 1) := by decide +kernel
theorem dX7_many_27 : decode cX7_many 27 = .ok (.iinc 2 1, 3) := by decide +kernel
theorem dX7_many_30 : decode cX7_many 30 = .ok (.goto (-26), 3) := by decide +kernel
theorem dX7_many_33 : decode cX7_many 33 = .ok (.iload_n 1, 1) := by decide +kernel
theorem dX7_many_34 : decode cX7_many 34 = .ok (.ireturn, 1) := by decide +kernel
theorem dX7_rake_0 : decode cX7_rake 0 = .ok (.aload_n 0, 1) := by decide +kernel
theorem dX7_rake_1 : decode cX7_rake 1 = .ok (.invokevirtual 158, 3) := by decide +kernel
theorem dX7_rake_4 : decode cX7_rake 4 = .ok (.iconst 2, 1) := by decide +kernel
theorem dX7_rake_5 : decode cX7_rake 5 = .ok (.if_icmp .ne 7, 3) := by decide +kernel
theorem dX7_rake_8 : decode cX7_rake 8 = .ok (.iconst 1, 1) := by decide +kernel
theorem dX7_rake_9 : decode cX7_rake 9 = .ok (.goto 4, 3) := by decide +kernel
theorem dX7_rake_12 : decode cX7_rake 12 = .ok (.iconst 0, 1) := by decide +kernel
theorem dX7_rake_13 : decode cX7_rake 13 = .ok (.istore_n 2, 1) := by decide +kernel
theorem dX7_rake_14 : decode cX7_rake 14 = .ok (.iconst 1, 1) := by decide +kernel
theorem dX7_rake_15 : decode cX7_rake 15 = .ok (.istore_n 3, 1) := by decide +kernel
theorem dX7_rake_16 : decode cX7_rake 16 = .ok (.iconst 0, 1) := by decide +kernel
theorem dX7_rake_17 : decode cX7_rake 17 = .ok (.istore 4, 2) := by decide +kernel
theorem dX7_rake_19 : decode cX7_rake 19 = .ok (.iload 4, 2) := by decide +kernel
theorem dX7_rake_21 : decode cX7_rake 21 = .ok (.bipush 12, 2) := by decide +kernel
theorem dX7_rake_23 : decode cX7_rake 23 = .ok (.if_icmp .ge 69, 3) := by decide +kernel
theorem dX7_rake_26 : decode cX7_rake 26 = .ok (.aload_n 0, 1) := by decide +kernel
theorem dX7_rake_27 : decode cX7_rake 27 = .ok (.getfield 50, 3) := by decide +kernel
theorem dX7_rake_30 : decode cX7_rake 30 = .ok (.iload 4, 2) := by decide +kernel
theorem dX7_rake_32 : decode cX7_rake 32 = .ok (.aload_n 0, 1) := by decide +kernel
theorem dX7_rake_33 : decode cX7_rake 33 = .ok (.getfield 47, 3) := by decide +kernel
theorem dX7_rake_36 : decode cX7_rake 36 = .ok (.iload 4, 2) := by decide +kernel
theorem dX7_rake_38 : decode cX7_rake 38 = .ok (.baload, 1) := by decide +kernel
theorem dX7_rake_39 : decode cX7_rake 39 = .ok (.ifCond .eq 17, 3) := by decide +kernel
theorem dX7_rake_42 : decode cX7_rake 42 = .ok (.aload_n 0, 1) := by decide +kernel
theorem dX7_rake_43 : decode cX7_rake 43 = .ok (.iload 4, 2) := by decide +kernel
theorem dX7_rake_45 : decode cX7_rake 45 = .ok (.invokevirtual 161, 3) := by decide +kernel
theorem dX7_rake_48 : decode cX7_rake 48 = .ok (.iconst 1, 1) := by decide +kernel
theorem dX7_rake_49 : decode cX7_rake 49 = .ok (.if_icmp .ne 7, 3) := by decide +kernel
theorem dX7_rake_52 : decode cX7_rake 52 = .ok (.iconst 1, 1) := by decide +kernel
theorem dX7_rake_53 : decode cX7_rake 53 = .ok (.goto 4, 3) := by decide +kernel
theorem dX7_rake_56 : decode cX7_rake 56 = .ok (.iconst 0, 1) := by decide +kernel
theorem dX7_rake_57 : decode cX7_rake 57 = .ok (.bastore, 1) := by decide +kernel
theorem dX7_rake_58 : decode cX7_rake 58 = .ok (.aload_n 0, 1) := by decide +kernel
theorem dX7_rake_59 : decode cX7_rake 59 = .ok (.getfield 50, 3) := by decide +kernel
theorem dX7_rake_62 : decode cX7_rake 62 = .ok (.iload 4, 2) := by decide +kernel
theorem dX7_rake_64 : decode cX7_rake 64 = .ok (.baload, 1) := by decide +kernel
theorem dX7_rake_65 : decode cX7_rake 65 = .ok (.ifCond .eq 21, 3) := by decide +kernel
theorem dX7_rake_68 : decode cX7_rake 68 = .ok (.iload_n 2, 1) := by decide +kernel
theorem dX7_rake_69 : decode cX7_rake 69 = .ok (.ifCond .eq 17, 3) := by decide +kernel
theorem dX7_rake_72 : decode cX7_rake 72 = .ok (.iload_n 3, 1) := by decide +kernel
theorem dX7_rake_73 : decode cX7_rake 73 = .ok (.ifCond .eq 13, 3) := by decide +kernel
theorem dX7_rake_76 : decode cX7_rake 76 = .ok (.iconst 0, 1) := by decide +kernel
theorem dX7_rake_77 : decode cX7_rake 77 = .ok (.istore_n 3, 1) := by decide +kernel
theorem dX7_rake_78 : decode cX7_rake 78 = .ok (.aload_n 0, 1) := by decide +kernel
theorem dX7_rake_79 : decode cX7_rake 79 = .ok (.getfield 50, 3) := by decide +kernel
theorem dX7_rake_82 : decode cX7_rake 82 = .ok (.iload 4, 2) := by decide +kernel
theorem dX7_rake_84 : decode cX7_rake 84 = .ok (.iconst 0, 1) := by decide +kernel
theorem dX7_rake_85 : decode cX7_rake 85 = .ok (.bastore, 1) := by decide +kernel
theorem dX7_rake_86 : decode cX7_rake 86 = .ok (.iinc 4 1, 3) := by decide +kernel
theorem dX7_rake_89 : decode cX7_rake 89 = .ok (.goto (-70), 3) := by decide +kernel
theorem dX7_rake_92 : decode cX7_rake 92 = .ok (.iconst 0, 1) := by decide +kernel
theorem dX7_rake_93 : decode cX7_rake 93 = .ok (.istore 4, 2) := by decide +kernel
theorem dX7_rake_95 : decode cX7_rake 95 = .ok (.iload 4, 2) := by decide +kernel
theorem dX7_rake_97 : decode cX7_rake 97 = .ok (.bipush 12, 2) := by decide +kernel
theorem dX7_rake_99 : decode cX7_rake 99 = .ok (.if_icmp .ge 26, 3) := by decide +kernel
theorem dX7_rake_102 : decode cX7_rake 102 = .ok (.aload_n 0, 1) := by decide +kernel
theorem dX7_rake_103 : decode cX7_rake 103 = .ok (.getfield 50, 3) := by decide +kernel
theorem dX7_rake_106 : decode cX7_rake 106 = .ok (.iload 4, 2) := by decide +kernel
theorem dX7_rake_108 : decode cX7_rake 108 = .ok (.baload, 1) := by decide +kernel
theorem dX7_rake_109 : decode cX7_rake 109 = .ok (.ifCond .eq 10, 3) := by decide +kernel
theorem dX7_rake_112 : decode cX7_rake 112 = .ok (.aload_n 0, 1) := by decide +kernel
theorem dX7_rake_113 : decode cX7_rake 113 = .ok (.iload 4, 2) := by decide +kernel
theorem dX7_rake_115 : decode cX7_rake 115 = .ok (.iload_n 1, 1) := by decide +kernel
theorem dX7_rake_116 : decode cX7_rake 116 = .ok (.invokevirtual 165, 3) := by decide +kernel
theorem dX7_rake_119 : decode cX7_rake 119 = .ok (.iinc 4 1, 3) := by decide +kernel
theorem dX7_rake_122 : decode cX7_rake 122 = .ok (.goto (-27), 3) := by decide +kernel
theorem dX7_rake_125 : decode cX7_rake 125 = .ok (.return_, 1) := by decide +kernel
theorem dX7_compress_0 : decode cX7_compress 0 = .ok (.iconst 0, 1) := by decide +kernel
theorem dX7_compress_1 : decode cX7_compress 1 = .ok (.istore_n 2, 1) := by decide +kernel
theorem dX7_compress_2 : decode cX7_compress 2 = .ok (.iload_n 2, 1) := by decide +kernel
theorem dX7_compress_3 : decode cX7_compress 3 = .ok (.sipush 144, 3) := by decide +kernel
theorem dX7_compress_6 : decode cX7_compress 6 = .ok (.if_icmp .ge 29, 3) := by decide +kernel
theorem dX7_compress_9 : decode cX7_compress 9 = .ok (.aload_n 0, 1) := by decide +kernel
theorem dX7_compress_10 : decode cX7_compress 10 = .ok (.getfield 44, 3) := by decide +kernel
theorem dX7_compress_13 : decode cX7_compress 13 = .ok (.iload_n 2, 1) := by decide +kernel
theorem dX7_compress_14 : decode cX7_compress 14 = .ok (.aload_n 0, 1) := by decide +kernel
theorem dX7_compress_15 : decode cX7_compress 15 = .ok (.getfield 44, 3) := by decide +kernel
theorem dX7_compress_18 : decode cX7_compress 18 = .ok (.iload_n 2, 1) := by decide +kernel
theorem dX7_compress_19 : decode cX7_compress 19 = .ok (.iaload, 1) := by decide +kernel
theorem dX7_compress_20 : decode cX7_compress 20 = .ok (.ifCond .le 7, 3) := by decide +kernel
theorem dX7_compress_23 : decode cX7_compress 23 = .ok (.iconst 1, 1) := by decide +kernel
theorem dX7_compress_24 : decode cX7_compress 24 = .ok (.goto 4, 3) := by decide +kernel
theorem dX7_compress_27 : decode cX7_compress 27 = .ok (.iconst 0, 1) := by decide +kernel
theorem dX7_compress_28 : decode cX7_compress 28 = .ok (.iastore, 1) := by decide +kernel
theorem dX7_compress_29 : decode cX7_compress 29 = .ok (.iinc 2 1, 3) := by decide +kernel
theorem dX7_compress_32 : decode cX7_compress 32 = .ok (.goto (-30), 3) := by decide +kernel
theorem dX7_compress_35 : decode cX7_compress 35 = .ok (.iconst 0, 1) := by decide +kernel
theorem dX7_compress_36 : decode cX7_compress 36 = .ok (.istore_n 2, 1) := by decide +kernel
theorem dX7_compress_37 : decode cX7_compress 37 = .ok (.iload_n 2, 1) := by decide +kernel
theorem dX7_compress_38 : decode cX7_compress 38 = .ok (.bipush 12, 2) := by decide +kernel
theorem dX7_compress_40 : decode cX7_compress 40 = .ok (.if_icmp .ge 105, 3) := by decide +kernel
theorem dX7_compress_43 : decode cX7_compress 43 = .ok (.aload_n 0, 1) := by decide +kernel
theorem dX7_compress_44 : decode cX7_compress 44 = .ok (.getfield 47, 3) := by decide +kernel
theorem dX7_compress_47 : decode cX7_compress 47 = .ok (.iload_n 2, 1) := by decide +kernel
theorem dX7_compress_48 : decode cX7_compress 48 = .ok (.baload, 1) := by decide +kernel
theorem dX7_compress_49 : decode cX7_compress 49 = .ok (.ifCond .eq 90, 3) := by decide +kernel
theorem dX7_compress_52 : decode cX7_compress 52 = .ok (.aload_n 0, 1) := by decide +kernel
theorem dX7_compress_53 : decode cX7_compress 53 = .ok (.iload_n 2, 1) := by decide +kernel
theorem dX7_compress_54 : decode cX7_compress 54 = .ok (.invokevirtual 161, 3) := by decide +kernel
theorem dX7_compress_57 : decode cX7_compress 57 = .ok (.iconst 2, 1) := by decide +kernel
theorem dX7_compress_58 : decode cX7_compress 58 = .ok (.if_icmp .ne 81, 3) := by decide +kernel
theorem dX7_compress_61 : decode cX7_compress 61 = .ok (.aload_n 0, 1) := by decide +kernel
theorem dX7_compress_62 : decode cX7_compress 62 = .ok (.iload_n 2, 1) := by decide +kernel
theorem dX7_compress_63 : decode cX7_compress 63 = .ok (.iconst (-1), 1) := by decide +kernel
theorem dX7_compress_64 : decode cX7_compress 64 = .ok (.invokevirtual 169, 3) := by decide +kernel
theorem dX7_compress_67 : decode cX7_compress 67 = .ok (.istore_n 3, 1) := by decide +kernel
theorem dX7_compress_68 : decode cX7_compress 68 = .ok (.aload_n 0, 1) := by decide +kernel
theorem dX7_compress_69 : decode cX7_compress 69 = .ok (.iload_n 2, 1) := by decide +kernel
theorem dX7_compress_70 : decode cX7_compress 70 = .ok (.iload_n 3, 1) := by decide +kernel
theorem dX7_compress_71 : decode cX7_compress 71 = .ok (.invokevirtual 169, 3) := by decide +kernel
theorem dX7_compress_74 : decode cX7_compress 74 = .ok (.istore 4, 2) := by decide +kernel
theorem dX7_compress_76 : decode cX7_compress 76 = .ok (.aload_n 0, 1) := by decide +kernel
theorem dX7_compress_77 : decode cX7_compress 77 = .ok (.getfield 44, 3) := by decide +kernel
theorem dX7_compress_80 : decode cX7_compress 80 = .ok (.bipush 12, 2) := by decide +kernel
theorem dX7_compress_82 : decode cX7_compress 82 = .ok (.iload_n 2, 1) := by decide +kernel
theorem dX7_compress_83 : decode cX7_compress 83 = .ok (.imul, 1) := by decide +kernel
theorem dX7_compress_84 : decode cX7_compress 84 = .ok (.iload_n 3, 1) := by decide +kernel
theorem dX7_compress_85 : decode cX7_compress 85 = .ok (.iadd, 1) := by decide +kernel
theorem dX7_compress_86 : decode cX7_compress 86 = .ok (.iaload, 1) := by decide +kernel
theorem dX7_compress_87 : decode cX7_compress 87 = .ok (.iconst 1, 1) := by decide +kernel
theorem dX7_compress_88 : decode cX7_compress 88 = .ok (.if_icmp .ne 51, 3) := by decide +kernel
theorem dX7_compress_91 : decode cX7_compress 91 = .ok (.aload_n 0, 1) := by decide +kernel
theorem dX7_compress_92 : decode cX7_compress 92 = .ok (.getfield 44, 3) := by decide +kernel
theorem dX7_compress_95 : decode cX7_compress 95 = .ok (.bipush 12, 2) := by decide +kernel
theorem dX7_compress_97 : decode cX7_compress 97 = .ok (.iload_n 2, 1) := by decide +kernel
theorem dX7_compress_98 : decode cX7_compress 98 = .ok (.imul, 1) := by decide +kernel
theorem dX7_compress_99 : decode cX7_compress 99 = .ok (.iload 4, 2) := by decide +kernel
theorem dX7_compress_101 : decode cX7_compress 101 = .ok (.iadd, 1) := by decide +kernel
theorem dX7_compress_102 : decode cX7_compress 102 = .ok (.iaload, 1) := by decide +kernel
theorem dX7_compress_103 : decode cX7_compress 103 = .ok (.iconst 1, 1) := by decide +kernel
theorem dX7_compress_104 : decode cX7_compress 104 = .ok (.if_icmp .ne 35, 3) := by decide +kernel
theorem dX7_compress_107 : decode cX7_compress 107 = .ok (.aload_n 0, 1) := by decide +kernel
theorem dX7_compress_108 : decode cX7_compress 108 = .ok (.iload_n 2, 1) := by decide +kernel
theorem dX7_compress_109 : decode cX7_compress 109 = .ok (.iload_n 1, 1) := by decide +kernel
theorem dX7_compress_110 : decode cX7_compress 110 = .ok (.invokevirtual 165, 3) := by decide +kernel
theorem dX7_compress_113 : decode cX7_compress 113 = .ok (.aload_n 0, 1) := by decide +kernel
theorem dX7_compress_114 : decode cX7_compress 114 = .ok (.getfield 44, 3) := by decide +kernel
theorem dX7_compress_117 : decode cX7_compress 117 = .ok (.bipush 12, 2) := by decide +kernel
theorem dX7_compress_119 : decode cX7_compress 119 = .ok (.iload_n 3, 1) := by decide +kernel
theorem dX7_compress_120 : decode cX7_compress 120 = .ok (.imul, 1) := by decide +kernel
theorem dX7_compress_121 : decode cX7_compress 121 = .ok (.iload 4, 2) := by decide +kernel
theorem dX7_compress_123 : decode cX7_compress 123 = .ok (.iadd, 1) := by decide +kernel
theorem dX7_compress_124 : decode cX7_compress 124 = .ok (.iconst 2, 1) := by decide +kernel
theorem dX7_compress_125 : decode cX7_compress 125 = .ok (.iastore, 1) := by decide +kernel
theorem dX7_compress_126 : decode cX7_compress 126 = .ok (.aload_n 0, 1) := by decide +kernel
theorem dX7_compress_127 : decode cX7_compress 127 = .ok (.getfield 44, 3) := by decide +kernel
theorem dX7_compress_130 : decode cX7_compress 130 = .ok (.bipush 12, 2) := by decide +kernel
theorem dX7_compress_132 : decode cX7_compress 132 = .ok (.iload 4, 2) := by decide +kernel
theorem dX7_compress_134 : decode cX7_compress 134 = .ok (.imul, 1) := by decide +kernel
theorem dX7_compress_135 : decode cX7_compress 135 = .ok (.iload_n 3, 1) := by decide +kernel
theorem dX7_compress_136 : decode cX7_compress 136 = .ok (.iadd, 1) := by decide +kernel
theorem dX7_compress_137 : decode cX7_compress 137 = .ok (.iconst 2, 1) := by decide +kernel
theorem dX7_compress_138 : decode cX7_compress 138 = .ok (.iastore, 1) := by decide +kernel
theorem dX7_compress_139 : decode cX7_compress 139 = .ok (.iinc 2 1, 3) := by decide +kernel
theorem dX7_compress_142 : decode cX7_compress 142 = .ok (.goto (-105), 3) := by decide +kernel
theorem dX7_compress_145 : decode cX7_compress 145 = .ok (.return_, 1) := by decide +kernel
theorem dX7_contract_0 : decode cX7_contract 0 = .ok (.aload_n 0, 1) := by decide +kernel
theorem dX7_contract_1 : decode cX7_contract 1 = .ok (.aload_n 1, 1) := by decide +kernel
theorem dX7_contract_2 : decode cX7_contract 2 = .ok (.iload_n 2, 1) := by decide +kernel
theorem dX7_contract_3 : decode cX7_contract 3 = .ok (.invokevirtual 68, 3) := by decide +kernel
theorem dX7_contract_6 : decode cX7_contract 6 = .ok (.iconst 0, 1) := by decide +kernel
theorem dX7_contract_7 : decode cX7_contract 7 = .ok (.istore_n 3, 1) := by decide +kernel
theorem dX7_contract_8 : decode cX7_contract 8 = .ok (.iload_n 3, 1) := by decide +kernel
theorem dX7_contract_9 : decode cX7_contract 9 = .ok (.bipush 12, 2) := by decide +kernel
theorem dX7_contract_11 : decode cX7_contract 11 = .ok (.if_icmp .ge 39, 3) := by decide +kernel
theorem dX7_contract_14 : decode cX7_contract 14 = .ok (.aload_n 0, 1) := by decide +kernel
theorem dX7_contract_15 : decode cX7_contract 15 = .ok (.getfield 47, 3) := by decide +kernel
theorem dX7_contract_18 : decode cX7_contract 18 = .ok (.iload_n 3, 1) := by decide +kernel
theorem dX7_contract_19 : decode cX7_contract 19 = .ok (.aload_n 0, 1) := by decide +kernel
theorem dX7_contract_20 : decode cX7_contract 20 = .ok (.getfield 35, 3) := by decide +kernel
theorem dX7_contract_23 : decode cX7_contract 23 = .ok (.iload_n 3, 1) := by decide +kernel
theorem dX7_contract_24 : decode cX7_contract 24 = .ok (.iaload, 1) := by decide +kernel
theorem dX7_contract_25 : decode cX7_contract 25 = .ok (.bipush (-9), 2) := by decide +kernel
theorem dX7_contract_27 : decode cX7_contract 27 = .ok (.if_icmp .eq 7, 3) := by decide +kernel
theorem dX7_contract_30 : decode cX7_contract 30 = .ok (.iconst 1, 1) := by decide +kernel
theorem dX7_contract_31 : decode cX7_contract 31 = .ok (.goto 4, 3) := by decide +kernel
theorem dX7_contract_34 : decode cX7_contract 34 = .ok (.iconst 0, 1) := by decide +kernel
theorem dX7_contract_35 : decode cX7_contract 35 = .ok (.bastore, 1) := by decide +kernel
theorem dX7_contract_36 : decode cX7_contract 36 = .ok (.aload_n 0, 1) := by decide +kernel
theorem dX7_contract_37 : decode cX7_contract 37 = .ok (.getfield 53, 3) := by decide +kernel
theorem dX7_contract_40 : decode cX7_contract 40 = .ok (.iload_n 3, 1) := by decide +kernel
theorem dX7_contract_41 : decode cX7_contract 41 = .ok (.bipush (-9), 2) := by decide +kernel
theorem dX7_contract_43 : decode cX7_contract 43 = .ok (.iastore, 1) := by decide +kernel
theorem dX7_contract_44 : decode cX7_contract 44 = .ok (.iinc 3 1, 3) := by decide +kernel
theorem dX7_contract_47 : decode cX7_contract 47 = .ok (.goto (-39), 3) := by decide +kernel
theorem dX7_contract_50 : decode cX7_contract 50 = .ok (.iconst 0, 1) := by decide +kernel
theorem dX7_contract_51 : decode cX7_contract 51 = .ok (.istore_n 3, 1) := by decide +kernel
theorem dX7_contract_52 : decode cX7_contract 52 = .ok (.iload_n 3, 1) := by decide +kernel
theorem dX7_contract_53 : decode cX7_contract 53 = .ok (.bipush 12, 2) := by decide +kernel
theorem dX7_contract_55 : decode cX7_contract 55 = .ok (.if_icmp .ge 62, 3) := by decide +kernel
theorem dX7_contract_58 : decode cX7_contract 58 = .ok (.iconst 0, 1) := by decide +kernel
theorem dX7_contract_59 : decode cX7_contract 59 = .ok (.istore 4, 2) := by decide +kernel
theorem dX7_contract_61 : decode cX7_contract 61 = .ok (.iload 4, 2) := by decide +kernel
theorem dX7_contract_63 : decode cX7_contract 63 = .ok (.bipush 12, 2) := by decide +kernel
theorem dX7_contract_65 : decode cX7_contract 65 = .ok (.if_icmp .ge 46, 3) := by decide +kernel
theorem dX7_contract_68 : decode cX7_contract 68 = .ok (.aload_n 0, 1) := by decide +kernel
theorem dX7_contract_69 : decode cX7_contract 69 = .ok (.getfield 44, 3) := by decide +kernel
theorem dX7_contract_72 : decode cX7_contract 72 = .ok (.bipush 12, 2) := by decide +kernel
theorem dX7_contract_74 : decode cX7_contract 74 = .ok (.iload_n 3, 1) := by decide +kernel
theorem dX7_contract_75 : decode cX7_contract 75 = .ok (.imul, 1) := by decide +kernel
theorem dX7_contract_76 : decode cX7_contract 76 = .ok (.iload 4, 2) := by decide +kernel
theorem dX7_contract_78 : decode cX7_contract 78 = .ok (.iadd, 1) := by decide +kernel
theorem dX7_contract_79 : decode cX7_contract 79 = .ok (.aload_n 0, 1) := by decide +kernel
theorem dX7_contract_80 : decode cX7_contract 80 = .ok (.getfield 47, 3) := by decide +kernel
theorem dX7_contract_83 : decode cX7_contract 83 = .ok (.iload_n 3, 1) := by decide +kernel
theorem dX7_contract_84 : decode cX7_contract 84 = .ok (.baload, 1) := by decide +kernel
theorem dX7_contract_85 : decode cX7_contract 85 = .ok (.ifCond .eq 18, 3) := by decide +kernel
theorem dX7_contract_88 : decode cX7_contract 88 = .ok (.aload_n 1, 1) := by decide +kernel
theorem dX7_contract_89 : decode cX7_contract 89 = .ok (.iload_n 3, 1) := by decide +kernel
theorem dX7_contract_90 : decode cX7_contract 90 = .ok (.iload 4, 2) := by decide +kernel
theorem dX7_contract_92 : decode cX7_contract 92 = .ok (.invokestatic 64, 3) := by decide +kernel
theorem dX7_contract_95 : decode cX7_contract 95 = .ok (.iaload, 1) := by decide +kernel
theorem dX7_contract_96 : decode cX7_contract 96 = .ok (.ifCond .le 7, 3) := by decide +kernel
theorem dX7_contract_99 : decode cX7_contract 99 = .ok (.iconst 1, 1) := by decide +kernel
theorem dX7_contract_100 : decode cX7_contract 100 = .ok (.goto 4, 3) := by decide +kernel
theorem dX7_contract_103 : decode cX7_contract 103 = .ok (.iconst 0, 1) := by decide +kernel
theorem dX7_contract_104 : decode cX7_contract 104 = .ok (.iastore, 1) := by decide +kernel
theorem dX7_contract_105 : decode cX7_contract 105 = .ok (.iinc 4 1, 3) := by decide +kernel
theorem dX7_contract_108 : decode cX7_contract 108 = .ok (.goto (-47), 3) := by decide +kernel
theorem dX7_contract_111 : decode cX7_contract 111 = .ok (.iinc 3 1, 3) := by decide +kernel
theorem dX7_contract_114 : decode cX7_contract 114 = .ok (.goto (-62), 3) := by decide +kernel
theorem dX7_contract_117 : decode cX7_contract 117 = .ok (.aload_n 0, 1) := by decide +kernel
theorem dX7_contract_118 : decode cX7_contract 118 = .ok (.iconst 0, 1) := by decide +kernel
theorem dX7_contract_119 : decode cX7_contract 119 = .ok (.putfield 172, 3) := by decide +kernel
theorem dX7_contract_122 : decode cX7_contract 122 = .ok (.aload_n 0, 1) := by decide +kernel
theorem dX7_contract_123 : decode cX7_contract 123 = .ok (.invokevirtual 158, 3) := by decide +kernel
theorem dX7_contract_126 : decode cX7_contract 126 = .ok (.iconst 1, 1) := by decide +kernel
theorem dX7_contract_127 : decode cX7_contract 127 = .ok (.if_icmp .le 32, 3) := by decide +kernel
theorem dX7_contract_130 : decode cX7_contract 130 = .ok (.aload_n 0, 1) := by decide +kernel
theorem dX7_contract_131 : decode cX7_contract 131 = .ok (.dup, 1) := by decide +kernel
theorem dX7_contract_132 : decode cX7_contract 132 = .ok (.getfield 172, 3) := by decide +kernel
theorem dX7_contract_135 : decode cX7_contract 135 = .ok (.iconst 1, 1) := by decide +kernel
theorem dX7_contract_136 : decode cX7_contract 136 = .ok (.iadd, 1) := by decide +kernel
theorem dX7_contract_137 : decode cX7_contract 137 = .ok (.putfield 172, 3) := by decide +kernel
theorem dX7_contract_140 : decode cX7_contract 140 = .ok (.aload_n 0, 1) := by decide +kernel
theorem dX7_contract_141 : decode cX7_contract 141 = .ok (.aload_n 0, 1) := by decide +kernel
theorem dX7_contract_142 : decode cX7_contract 142 = .ok (.getfield 172, 3) := by decide +kernel
theorem dX7_contract_145 : decode cX7_contract 145 = .ok (.invokevirtual 175, 3) := by decide +kernel
theorem dX7_contract_148 : decode cX7_contract 148 = .ok (.aload_n 0, 1) := by decide +kernel
theorem dX7_contract_149 : decode cX7_contract 149 = .ok (.aload_n 0, 1) := by decide +kernel
theorem dX7_contract_150 : decode cX7_contract 150 = .ok (.getfield 172, 3) := by decide +kernel
theorem dX7_contract_153 : decode cX7_contract 153 = .ok (.invokevirtual 179, 3) := by decide +kernel
theorem dX7_contract_156 : decode cX7_contract 156 = .ok (.goto (-34), 3) := by decide +kernel
theorem dX7_contract_159 : decode cX7_contract 159 = .ok (.aload_n 0, 1) := by decide +kernel
theorem dX7_contract_160 : decode cX7_contract 160 = .ok (.iconst 0, 1) := by decide +kernel
theorem dX7_contract_161 : decode cX7_contract 161 = .ok (.putfield 182, 3) := by decide +kernel
theorem dX7_contract_164 : decode cX7_contract 164 = .ok (.aload_n 0, 1) := by decide +kernel
theorem dX7_contract_165 : decode cX7_contract 165 = .ok (.getfield 47, 3) := by decide +kernel
theorem dX7_contract_168 : decode cX7_contract 168 = .ok (.aload_n 0, 1) := by decide +kernel
theorem dX7_contract_169 : decode cX7_contract 169 = .ok (.getfield 182, 3) := by decide +kernel
theorem dX7_contract_172 : decode cX7_contract 172 = .ok (.baload, 1) := by decide +kernel
theorem dX7_contract_173 : decode cX7_contract 173 = .ok (.ifCond .ne 16, 3) := by decide +kernel
theorem dX7_contract_176 : decode cX7_contract 176 = .ok (.aload_n 0, 1) := by decide +kernel
theorem dX7_contract_177 : decode cX7_contract 177 = .ok (.dup, 1) := by decide +kernel
theorem dX7_contract_178 : decode cX7_contract 178 = .ok (.getfield 182, 3) := by decide +kernel
theorem dX7_contract_181 : decode cX7_contract 181 = .ok (.iconst 1, 1) := by decide +kernel
theorem dX7_contract_182 : decode cX7_contract 182 = .ok (.iadd, 1) := by decide +kernel
theorem dX7_contract_183 : decode cX7_contract 183 = .ok (.putfield 182, 3) := by decide +kernel
theorem dX7_contract_186 : decode cX7_contract 186 = .ok (.goto (-22), 3) := by decide +kernel
theorem dX7_contract_189 : decode cX7_contract 189 = .ok (.return_, 1) := by decide +kernel
theorem dX7_rounds_0 : decode cX7_rounds 0 = .ok (.aload_n 0, 1) := by decide +kernel
theorem dX7_rounds_1 : decode cX7_rounds 1 = .ok (.iload_n 1, 1) := by decide +kernel
theorem dX7_rounds_2 : decode cX7_rounds 2 = .ok (.invokevirtual 128, 3) := by decide +kernel
theorem dX7_rounds_5 : decode cX7_rounds 5 = .ok (.ifCond .ne 5, 3) := by decide +kernel
theorem dX7_rounds_8 : decode cX7_rounds 8 = .ok (.iconst (-1), 1) := by decide +kernel
theorem dX7_rounds_9 : decode cX7_rounds 9 = .ok (.ireturn, 1) := by decide +kernel
theorem dX7_rounds_10 : decode cX7_rounds 10 = .ok (.aload_n 0, 1) := by decide +kernel
theorem dX7_rounds_11 : decode cX7_rounds 11 = .ok (.aload_n 0, 1) := by decide +kernel
theorem dX7_rounds_12 : decode cX7_rounds 12 = .ok (.getfield 13, 3) := by decide +kernel
theorem dX7_rounds_15 : decode cX7_rounds 15 = .ok (.iload_n 1, 1) := by decide +kernel
theorem dX7_rounds_16 : decode cX7_rounds 16 = .ok (.invokevirtual 185, 3) := by decide +kernel
theorem dX7_rounds_19 : decode cX7_rounds 19 = .ok (.aload_n 0, 1) := by decide +kernel
theorem dX7_rounds_20 : decode cX7_rounds 20 = .ok (.getfield 172, 3) := by decide +kernel
theorem dX7_rounds_23 : decode cX7_rounds 23 = .ok (.ireturn, 1) := by decide +kernel
theorem dX7_removalRound_0 : decode cX7_removalRound 0 = .ok (.aload_n 0, 1) := by decide +kernel
theorem dX7_removalRound_1 : decode cX7_removalRound 1 = .ok (.iload_n 1, 1) := by decide +kernel
theorem dX7_removalRound_2 : decode cX7_removalRound 2 = .ok (.invokevirtual 128, 3) := by decide +kernel
theorem dX7_removalRound_5 : decode cX7_removalRound 5 = .ok (.ifCond .ne 5, 3) := by decide +kernel
theorem dX7_removalRound_8 : decode cX7_removalRound 8 = .ok (.iconst (-1), 1) := by decide +kernel
theorem dX7_removalRound_9 : decode cX7_removalRound 9 = .ok (.ireturn, 1) := by decide +kernel
theorem dX7_removalRound_10 : decode cX7_removalRound 10 = .ok (.aload_n 0, 1) := by decide +kernel
theorem dX7_removalRound_11 : decode cX7_removalRound 11 = .ok (.aload_n 0, 1) := by decide +kernel
theorem dX7_removalRound_12 : decode cX7_removalRound 12 = .ok (.getfield 13, 3) := by decide +kernel
theorem dX7_removalRound_15 : decode cX7_removalRound 15 = .ok (.iload_n 1, 1) := by decide +kernel
theorem dX7_removalRound_16 : decode cX7_removalRound 16 = .ok (.invokevirtual 185, 3) := by decide +kernel
theorem dX7_removalRound_19 : decode cX7_removalRound 19 = .ok (.aload_n 0, 1) := by decide +kernel
theorem dX7_removalRound_20 : decode cX7_removalRound 20 = .ok (.getfield 53, 3) := by decide +kernel
theorem dX7_removalRound_23 : decode cX7_removalRound 23 = .ok (.iload_n 1, 1) := by decide +kernel
theorem dX7_removalRound_24 : decode cX7_removalRound 24 = .ok (.iaload, 1) := by decide +kernel
theorem dX7_removalRound_25 : decode cX7_removalRound 25 = .ok (.ireturn, 1) := by decide +kernel
theorem dX7_survivor_0 : decode cX7_survivor 0 = .ok (.aload_n 0, 1) := by decide +kernel
theorem dX7_survivor_1 : decode cX7_survivor 1 = .ok (.iload_n 1, 1) := by decide +kernel
theorem dX7_survivor_2 : decode cX7_survivor 2 = .ok (.invokevirtual 128, 3) := by decide +kernel
theorem dX7_survivor_5 : decode cX7_survivor 5 = .ok (.ifCond .ne 5, 3) := by decide +kernel
theorem dX7_survivor_8 : decode cX7_survivor 8 = .ok (.iconst (-1), 1) := by decide +kernel
theorem dX7_survivor_9 : decode cX7_survivor 9 = .ok (.ireturn, 1) := by decide +kernel
theorem dX7_survivor_10 : decode cX7_survivor 10 = .ok (.aload_n 0, 1) := by decide +kernel
theorem dX7_survivor_11 : decode cX7_survivor 11 = .ok (.aload_n 0, 1) := by decide +kernel
theorem dX7_survivor_12 : decode cX7_survivor 12 = .ok (.getfield 13, 3) := by decide +kernel
theorem dX7_survivor_15 : decode cX7_survivor 15 = .ok (.iload_n 1, 1) := by decide +kernel
theorem dX7_survivor_16 : decode cX7_survivor 16 = .ok (.invokevirtual 185, 3) := by decide +kernel
theorem dX7_survivor_19 : decode cX7_survivor 19 = .ok (.aload_n 0, 1) := by decide +kernel
theorem dX7_survivor_20 : decode cX7_survivor 20 = .ok (.getfield 182, 3) := by decide +kernel
theorem dX7_survivor_23 : decode cX7_survivor 23 = .ok (.ireturn, 1) := by decide +kernel
theorem dX7_weightWith_0 : decode cX7_weightWith 0 = .ok (.aload_n 0, 1) := by decide +kernel
theorem dX7_weightWith_1 : decode cX7_weightWith 1 = .ok (.aload_n 1, 1) := by decide +kernel
theorem dX7_weightWith_2 : decode cX7_weightWith 2 = .ok (.iload_n 2, 1) := by decide +kernel
theorem dX7_weightWith_3 : decode cX7_weightWith 3 = .ok (.invokevirtual 68, 3) := by decide +kernel
theorem dX7_weightWith_6 : decode cX7_weightWith 6 = .ok (.iconst 0, 1) := by decide +kernel
theorem dX7_weightWith_7 : decode cX7_weightWith 7 = .ok (.istore_n 3, 1) := by decide +kernel
theorem dX7_weightWith_8 : decode cX7_weightWith 8 = .ok (.iconst 0, 1) := by decide +kernel
theorem dX7_weightWith_9 : decode cX7_weightWith 9 = .ok (.istore 4, 2) := by decide +kernel
theorem dX7_weightWith_11 : decode cX7_weightWith 11 = .ok (.iload 4, 2) := by decide +kernel
theorem dX7_weightWith_13 : decode cX7_weightWith 13 = .ok (.aload_n 0, 1) := by decide +kernel
theorem dX7_weightWith_14 : decode cX7_weightWith 14 = .ok (.getfield 56, 3) := by decide +kernel
theorem dX7_weightWith_17 : decode cX7_weightWith 17 = .ok (.if_icmp .ge 32, 3) := by decide +kernel
theorem dX7_weightWith_20 : decode cX7_weightWith 20 = .ok (.iload_n 3, 1) := by decide +kernel
theorem dX7_weightWith_21 : decode cX7_weightWith 21 = .ok (.aload_n 0, 1) := by decide +kernel
theorem dX7_weightWith_22 : decode cX7_weightWith 22 = .ok (.getfield 35, 3) := by decide +kernel
theorem dX7_weightWith_25 : decode cX7_weightWith 25 = .ok (.iload 4, 2) := by decide +kernel
theorem dX7_weightWith_27 : decode cX7_weightWith 27 = .ok (.iaload, 1) := by decide +kernel
theorem dX7_weightWith_28 : decode cX7_weightWith 28 = .ok (.bipush (-9), 2) := by decide +kernel
theorem dX7_weightWith_30 : decode cX7_weightWith 30 = .ok (.if_icmp .ne 7, 3) := by decide +kernel
theorem dX7_weightWith_33 : decode cX7_weightWith 33 = .ok (.iconst 0, 1) := by decide +kernel
theorem dX7_weightWith_34 : decode cX7_weightWith 34 = .ok (.goto 7, 3) := by decide +kernel
theorem dX7_weightWith_37 : decode cX7_weightWith 37 = .ok (.aload_n 1, 1) := by decide +kernel
theorem dX7_weightWith_38 : decode cX7_weightWith 38 = .ok (.iload 4, 2) := by decide +kernel
theorem dX7_weightWith_40 : decode cX7_weightWith 40 = .ok (.iaload, 1) := by decide +kernel
theorem dX7_weightWith_41 : decode cX7_weightWith 41 = .ok (.iadd, 1) := by decide +kernel
theorem dX7_weightWith_42 : decode cX7_weightWith 42 = .ok (.istore_n 3, 1) := by decide +kernel
theorem dX7_weightWith_43 : decode cX7_weightWith 43 = .ok (.iinc 4 1, 3) := by decide +kernel
theorem dX7_weightWith_46 : decode cX7_weightWith 46 = .ok (.goto (-35), 3) := by decide +kernel
theorem dX7_weightWith_49 : decode cX7_weightWith 49 = .ok (.iload_n 3, 1) := by decide +kernel
theorem dX7_weightWith_50 : decode cX7_weightWith 50 = .ok (.ireturn, 1) := by decide +kernel
theorem dX7_balancedCut_0 : decode cX7_balancedCut 0 = .ok (.aload_n 0, 1) := by decide +kernel
theorem dX7_balancedCut_1 : decode cX7_balancedCut 1 = .ok (.iload_n 1, 1) := by decide +kernel
theorem dX7_balancedCut_2 : decode cX7_balancedCut 2 = .ok (.invokevirtual 128, 3) := by decide +kernel
theorem dX7_balancedCut_5 : decode cX7_balancedCut 5 = .ok (.ifCond .ne 5, 3) := by decide +kernel
theorem dX7_balancedCut_8 : decode cX7_balancedCut 8 = .ok (.iconst (-1), 1) := by decide +kernel
theorem dX7_balancedCut_9 : decode cX7_balancedCut 9 = .ok (.ireturn, 1) := by decide +kernel
theorem dX7_balancedCut_10 : decode cX7_balancedCut 10 = .ok (.bipush (-9), 2) := by decide +kernel
theorem dX7_balancedCut_12 : decode cX7_balancedCut 12 = .ok (.istore_n 2, 1) := by decide +kernel
theorem dX7_balancedCut_13 : decode cX7_balancedCut 13 = .ok (.iconst 0, 1) := by decide +kernel
theorem dX7_balancedCut_14 : decode cX7_balancedCut 14 = .ok (.istore_n 3, 1) := by decide +kernel
theorem dX7_balancedCut_15 : decode cX7_balancedCut 15 = .ok (.iconst 0, 1) := by decide +kernel
theorem dX7_balancedCut_16 : decode cX7_balancedCut 16 = .ok (.istore 4, 2) := by decide +kernel
theorem dX7_balancedCut_18 : decode cX7_balancedCut 18 = .ok (.iload 4, 2) := by decide +kernel
theorem dX7_balancedCut_20 : decode cX7_balancedCut 20 = .ok (.aload_n 0, 1) := by decide +kernel
theorem dX7_balancedCut_21 : decode cX7_balancedCut 21 = .ok (.getfield 56, 3) := by decide +kernel
theorem dX7_balancedCut_24 : decode cX7_balancedCut 24 = .ok (.if_icmp .ge 166, 3) := by decide +kernel
theorem dX7_balancedCut_27 : decode cX7_balancedCut 27 = .ok (.iload 4, 2) := by decide +kernel
theorem dX7_balancedCut_29 : decode cX7_balancedCut 29 = .ok (.iconst 1, 1) := by decide +kernel
theorem dX7_balancedCut_30 : decode cX7_balancedCut 30 = .ok (.iadd, 1) := by decide +kernel
theorem dX7_balancedCut_31 : decode cX7_balancedCut 31 = .ok (.istore 5, 2) := by decide +kernel
theorem dX7_balancedCut_33 : decode cX7_balancedCut 33 = .ok (.iload 5, 2) := by decide +kernel
theorem dX7_balancedCut_35 : decode cX7_balancedCut 35 = .ok (.aload_n 0, 1) := by decide +kernel
theorem dX7_balancedCut_36 : decode cX7_balancedCut 36 = .ok (.getfield 56, 3) := by decide +kernel
theorem dX7_balancedCut_39 : decode cX7_balancedCut 39 = .ok (.if_icmp .ge 145, 3) := by decide +kernel
theorem dX7_balancedCut_42 : decode cX7_balancedCut 42 = .ok (.aload_n 0, 1) := by decide +kernel
theorem dX7_balancedCut_43 : decode cX7_balancedCut 43 = .ok (.getfield 13, 3) := by decide +kernel
theorem dX7_balancedCut_46 : decode cX7_balancedCut 46 = .ok (.iload 4, 2) := by decide +kernel
theorem dX7_balancedCut_48 : decode cX7_balancedCut 48 = .ok (.iload 5, 2) := by decide +kernel
theorem dX7_balancedCut_50 : decode cX7_balancedCut 50 = .ok (.invokestatic 64, 3) := by decide +kernel
theorem dX7_balancedCut_53 : decode cX7_balancedCut 53 = .ok (.iaload, 1) := by decide +kernel
theorem dX7_balancedCut_54 : decode cX7_balancedCut 54 = .ok (.ifCond .le 124, 3) := by decide +kernel
theorem dX7_balancedCut_57 : decode cX7_balancedCut 57 = .ok (.aload_n 0, 1) := by decide +kernel
theorem dX7_balancedCut_58 : decode cX7_balancedCut 58 = .ok (.aload_n 0, 1) := by decide +kernel
theorem dX7_balancedCut_59 : decode cX7_balancedCut 59 = .ok (.getfield 13, 3) := by decide +kernel
theorem dX7_balancedCut_62 : decode cX7_balancedCut 62 = .ok (.iload_n 1, 1) := by decide +kernel
theorem dX7_balancedCut_63 : decode cX7_balancedCut 63 = .ok (.iload 4, 2) := by decide +kernel
theorem dX7_balancedCut_65 : decode cX7_balancedCut 65 = .ok (.invokevirtual 98, 3) := by decide +kernel
theorem dX7_balancedCut_68 : decode cX7_balancedCut 68 = .ok (.ifCond .eq 110, 3) := by decide +kernel
theorem dX7_balancedCut_71 : decode cX7_balancedCut 71 = .ok (.aload_n 0, 1) := by decide +kernel
theorem dX7_balancedCut_72 : decode cX7_balancedCut 72 = .ok (.getfield 13, 3) := by decide +kernel
theorem dX7_balancedCut_75 : decode cX7_balancedCut 75 = .ok (.aload_n 0, 1) := by decide +kernel
theorem dX7_balancedCut_76 : decode cX7_balancedCut 76 = .ok (.getfield 16, 3) := by decide +kernel
theorem dX7_balancedCut_79 : decode cX7_balancedCut 79 = .ok (.invokestatic 117, 3) := by decide +kernel
theorem dX7_balancedCut_82 : decode cX7_balancedCut 82 = .ok (.aload_n 0, 1) := by decide +kernel
theorem dX7_balancedCut_83 : decode cX7_balancedCut 83 = .ok (.getfield 16, 3) := by decide +kernel
theorem dX7_balancedCut_86 : decode cX7_balancedCut 86 = .ok (.iload 4, 2) := by decide +kernel
theorem dX7_balancedCut_88 : decode cX7_balancedCut 88 = .ok (.iload 5, 2) := by decide +kernel
theorem dX7_balancedCut_90 : decode cX7_balancedCut 90 = .ok (.iconst 0, 1) := by decide +kernel
theorem dX7_balancedCut_91 : decode cX7_balancedCut 91 = .ok (.invokestatic 105, 3) := by decide +kernel
theorem dX7_balancedCut_94 : decode cX7_balancedCut 94 = .ok (.aload_n 0, 1) := by decide +kernel
theorem dX7_balancedCut_95 : decode cX7_balancedCut 95 = .ok (.aload_n 0, 1) := by decide +kernel
theorem dX7_balancedCut_96 : decode cX7_balancedCut 96 = .ok (.getfield 16, 3) := by decide +kernel
theorem dX7_balancedCut_99 : decode cX7_balancedCut 99 = .ok (.iload 4, 2) := by decide +kernel
theorem dX7_balancedCut_101 : decode cX7_balancedCut 101 = .ok (.invokevirtual 188, 3) := by decide +kernel
theorem dX7_balancedCut_104 : decode cX7_balancedCut 104 = .ok (.istore 6, 2) := by decide +kernel
theorem dX7_balancedCut_106 : decode cX7_balancedCut 106 = .ok (.aload_n 0, 1) := by decide +kernel
theorem dX7_balancedCut_107 : decode cX7_balancedCut 107 = .ok (.aload_n 0, 1) := by decide +kernel
theorem dX7_balancedCut_108 : decode cX7_balancedCut 108 = .ok (.getfield 16, 3) := by decide +kernel
theorem dX7_balancedCut_111 : decode cX7_balancedCut 111 = .ok (.iload 5, 2) := by decide +kernel
theorem dX7_balancedCut_113 : decode cX7_balancedCut 113 = .ok (.invokevirtual 188, 3) := by decide +kernel
theorem dX7_balancedCut_116 : decode cX7_balancedCut 116 = .ok (.istore 7, 2) := by decide +kernel
theorem dX7_balancedCut_118 : decode cX7_balancedCut 118 = .ok (.iload 6, 2) := by decide +kernel
theorem dX7_balancedCut_120 : decode cX7_balancedCut 120 = .ok (.iload 7, 2) := by decide +kernel
theorem dX7_balancedCut_122 : decode cX7_balancedCut 122 = .ok (.if_icmp .le 8, 3) := by decide +kernel
theorem dX7_balancedCut_125 : decode cX7_balancedCut 125 = .ok (.iload 6, 2) := by decide +kernel
theorem dX7_balancedCut_127 : decode cX7_balancedCut 127 = .ok (.goto 5, 3) := by decide +kernel
theorem dX7_balancedCut_130 : decode cX7_balancedCut 130 = .ok (.iload 7, 2) := by decide +kernel
theorem dX7_balancedCut_132 : decode cX7_balancedCut 132 = .ok (.istore 8, 2) := by decide +kernel
theorem dX7_balancedCut_134 : decode cX7_balancedCut 134 = .ok (.iload_n 2, 1) := by decide +kernel
theorem dX7_balancedCut_135 : decode cX7_balancedCut 135 = .ok (.bipush (-9), 2) := by decide +kernel
theorem dX7_balancedCut_137 : decode cX7_balancedCut 137 = .ok (.if_icmp .eq 9, 3) := by decide +kernel
theorem dX7_balancedCut_140 : decode cX7_balancedCut 140 = .ok (.iload 8, 2) := by decide +kernel
theorem dX7_balancedCut_142 : decode cX7_balancedCut 142 = .ok (.iload_n 3, 1) := by decide +kernel
theorem dX7_balancedCut_143 : decode cX7_balancedCut 143 = .ok (.if_icmp .ge 14, 3) := by decide +kernel
theorem dX7_balancedCut_146 : decode cX7_balancedCut 146 = .ok (.bipush 100, 2) := by decide +kernel
theorem dX7_balancedCut_148 : decode cX7_balancedCut 148 = .ok (.iload 4, 2) := by decide +kernel
theorem dX7_balancedCut_150 : decode cX7_balancedCut 150 = .ok (.imul, 1) := by decide +kernel
theorem dX7_balancedCut_151 : decode cX7_balancedCut 151 = .ok (.iload 5, 2) := by decide +kernel
theorem dX7_balancedCut_153 : decode cX7_balancedCut 153 = .ok (.iadd, 1) := by decide +kernel
theorem dX7_balancedCut_154 : decode cX7_balancedCut 154 = .ok (.goto 4, 3) := by decide +kernel
theorem dX7_balancedCut_157 : decode cX7_balancedCut 157 = .ok (.iload_n 2, 1) := by decide +kernel
theorem dX7_balancedCut_158 : decode cX7_balancedCut 158 = .ok (.istore_n 2, 1) := by decide +kernel
theorem dX7_balancedCut_159 : decode cX7_balancedCut 159 = .ok (.iload_n 2, 1) := by decide +kernel
theorem dX7_balancedCut_160 : decode cX7_balancedCut 160 = .ok (.bipush 100, 2) := by decide +kernel
theorem dX7_balancedCut_162 : decode cX7_balancedCut 162 = .ok (.iload 4, 2) := by decide +kernel
theorem dX7_balancedCut_164 : decode cX7_balancedCut 164 = .ok (.imul, 1) := by decide +kernel
theorem dX7_balancedCut_165 : decode cX7_balancedCut 165 = .ok (.iload 5, 2) := by decide +kernel
theorem dX7_balancedCut_167 : decode cX7_balancedCut 167 = .ok (.iadd, 1) := by decide +kernel
theorem dX7_balancedCut_168 : decode cX7_balancedCut 168 = .ok (.if_icmp .ne 8, 3) := by decide +kernel
theorem dX7_balancedCut_171 : decode cX7_balancedCut 171 = .ok (.iload 8, 2) := by decide +kernel
theorem dX7_balancedCut_173 : decode cX7_balancedCut 173 = .ok (.goto 4, 3) := by decide +kernel
theorem dX7_balancedCut_176 : decode cX7_balancedCut 176 = .ok (.iload_n 3, 1) := by decide +kernel
theorem dX7_balancedCut_177 : decode cX7_balancedCut 177 = .ok (.istore_n 3, 1) := by decide +kernel
theorem dX7_balancedCut_178 : decode cX7_balancedCut 178 = .ok (.iinc 5 1, 3) := by decide +kernel
theorem dX7_balancedCut_181 : decode cX7_balancedCut 181 = .ok (.goto (-148), 3) := by decide +kernel
theorem dX7_balancedCut_184 : decode cX7_balancedCut 184 = .ok (.iinc 4 1, 3) := by decide +kernel
theorem dX7_balancedCut_187 : decode cX7_balancedCut 187 = .ok (.goto (-169), 3) := by decide +kernel
theorem dX7_balancedCut_190 : decode cX7_balancedCut 190 = .ok (.iload_n 2, 1) := by decide +kernel
theorem dX7_balancedCut_191 : decode cX7_balancedCut 191 = .ok (.ireturn, 1) := by decide +kernel
theorem dX7_expectedReach_0 : decode cX7_expectedReach 0 = .ok (.aload_n 0, 1) := by decide +kernel
theorem dX7_expectedReach_1 : decode cX7_expectedReach 1 = .ok (.iload_n 1, 1) := by decide +kernel
theorem dX7_expectedReach_2 : decode cX7_expectedReach 2 = .ok (.invokevirtual 128, 3) := by decide +kernel
theorem dX7_expectedReach_5 : decode cX7_expectedReach 5 = .ok (.ifCond .ne 7, 3) := by decide +kernel
theorem dX7_expectedReach_8 : decode cX7_expectedReach 8 = .ok (.ldc2_w 191, 3) := by decide +kernel
theorem dX7_expectedReach_11 : decode cX7_expectedReach 11 = .ok (.lreturn, 1) := by decide +kernel
theorem dX7_expectedReach_12 : decode cX7_expectedReach 12 = .ok (.iload_n 2, 1) := by decide +kernel
theorem dX7_expectedReach_13 : decode cX7_expectedReach 13 = .ok (.i2l, 1) := by decide +kernel
theorem dX7_expectedReach_14 : decode cX7_expectedReach 14 = .ok (.lconst 0, 1) := by decide +kernel
theorem dX7_expectedReach_15 : decode cX7_expectedReach 15 = .ok (.ldc2_w 193, 3) := by decide +kernel
theorem dX7_expectedReach_18 : decode cX7_expectedReach 18 = .ok (.invokestatic 60, 3) := by decide +kernel
theorem dX7_expectedReach_21 : decode cX7_expectedReach 21 = .ok (.ifCond .ne 7, 3) := by decide +kernel
theorem dX7_expectedReach_24 : decode cX7_expectedReach 24 = .ok (.ldc2_w 195, 3) := by decide +kernel
theorem dX7_expectedReach_27 : decode cX7_expectedReach 27 = .ok (.lreturn, 1) := by decide +kernel
theorem dX7_expectedReach_28 : decode cX7_expectedReach 28 = .ok (.aload_n 0, 1) := by decide +kernel
theorem dX7_expectedReach_29 : decode cX7_expectedReach 29 = .ok (.aload_n 0, 1) := by decide +kernel
theorem dX7_expectedReach_30 : decode cX7_expectedReach 30 = .ok (.getfield 13, 3) := by decide +kernel
theorem dX7_expectedReach_33 : decode cX7_expectedReach 33 = .ok (.iload_n 1, 1) := by decide +kernel
theorem dX7_expectedReach_34 : decode cX7_expectedReach 34 = .ok (.invokevirtual 68, 3) := by decide +kernel
theorem dX7_expectedReach_37 : decode cX7_expectedReach 37 = .ok (.lconst 0, 1) := by decide +kernel
theorem dX7_expectedReach_38 : decode cX7_expectedReach 38 = .ok (.lstore_n 3, 1) := by decide +kernel
theorem dX7_expectedReach_39 : decode cX7_expectedReach 39 = .ok (.iconst 0, 1) := by decide +kernel
theorem dX7_expectedReach_40 : decode cX7_expectedReach 40 = .ok (.istore 5, 2) := by decide +kernel
theorem dX7_expectedReach_42 : decode cX7_expectedReach 42 = .ok (.iload 5, 2) := by decide +kernel
theorem dX7_expectedReach_44 : decode cX7_expectedReach 44 = .ok (.aload_n 0, 1) := by decide +kernel
theorem dX7_expectedReach_45 : decode cX7_expectedReach 45 = .ok (.getfield 56, 3) := by decide +kernel
theorem dX7_expectedReach_48 : decode cX7_expectedReach 48 = .ok (.if_icmp .ge 84, 3) := by decide +kernel
theorem dX7_expectedReach_51 : decode cX7_expectedReach 51 = .ok (.aload_n 0, 1) := by decide +kernel
theorem dX7_expectedReach_52 : decode cX7_expectedReach 52 = .ok (.getfield 35, 3) := by decide +kernel
theorem dX7_expectedReach_55 : decode cX7_expectedReach 55 = .ok (.iload 5, 2) := by decide +kernel
theorem dX7_expectedReach_57 : decode cX7_expectedReach 57 = .ok (.iaload, 1) := by decide +kernel
theorem dX7_expectedReach_58 : decode cX7_expectedReach 58 = .ok (.bipush (-9), 2) := by decide +kernel
theorem dX7_expectedReach_60 : decode cX7_expectedReach 60 = .ok (.if_icmp .ne 7, 3) := by decide +kernel
theorem dX7_expectedReach_63 : decode cX7_expectedReach 63 = .ok (.lconst 0, 1) := by decide +kernel
theorem dX7_expectedReach_64 : decode cX7_expectedReach 64 = .ok (.goto 11, 3) := by decide +kernel
theorem dX7_expectedReach_67 : decode cX7_expectedReach 67 = .ok (.aload_n 0, 1) := by decide +kernel
theorem dX7_expectedReach_68 : decode cX7_expectedReach 68 = .ok (.getfield 13, 3) := by decide +kernel
theorem dX7_expectedReach_71 : decode cX7_expectedReach 71 = .ok (.iload 5, 2) := by decide +kernel
theorem dX7_expectedReach_73 : decode cX7_expectedReach 73 = .ok (.iaload, 1) := by decide +kernel
theorem dX7_expectedReach_74 : decode cX7_expectedReach 74 = .ok (.i2l, 1) := by decide +kernel
theorem dX7_expectedReach_75 : decode cX7_expectedReach 75 = .ok (.lstore 6, 2) := by decide +kernel
theorem dX7_expectedReach_77 : decode cX7_expectedReach 77 = .ok (.iconst 0, 1) := by decide +kernel
theorem dX7_expectedReach_78 : decode cX7_expectedReach 78 = .ok (.istore 8, 2) := by decide +kernel
theorem dX7_expectedReach_80 : decode cX7_expectedReach 80 = .ok (.iload 8, 2) := by decide +kernel
theorem dX7_expectedReach_82 : decode cX7_expectedReach 82 = .ok (.bipush 11, 2) := by decide +kernel
theorem dX7_expectedReach_84 : decode cX7_expectedReach 84 = .ok (.if_icmp .ge 37, 3) := by decide +kernel
theorem dX7_expectedReach_87 : decode cX7_expectedReach 87 = .ok (.lload 6, 2) := by decide +kernel
theorem dX7_expectedReach_89 : decode cX7_expectedReach 89 = .ok (.iload 8, 2) := by decide +kernel
theorem dX7_expectedReach_91 : decode cX7_expectedReach 91 = .ok (.aload_n 0, 1) := by decide +kernel
theorem dX7_expectedReach_92 : decode cX7_expectedReach 92 = .ok (.getfield 38, 3) := by decide +kernel
theorem dX7_expectedReach_95 : decode cX7_expectedReach 95 = .ok (.iload 5, 2) := by decide +kernel
theorem dX7_expectedReach_97 : decode cX7_expectedReach 97 = .ok (.iaload, 1) := by decide +kernel
theorem dX7_expectedReach_98 : decode cX7_expectedReach 98 = .ok (.if_icmp .ge 11, 3) := by decide +kernel
theorem dX7_expectedReach_101 : decode cX7_expectedReach 101 = .ok (.bipush 10, 2) := by decide +kernel
theorem dX7_expectedReach_103 : decode cX7_expectedReach 103 = .ok (.iload_n 2, 1) := by decide +kernel
theorem dX7_expectedReach_104 : decode cX7_expectedReach 104 = .ok (.isub, 1) := by decide +kernel
theorem dX7_expectedReach_105 : decode cX7_expectedReach 105 = .ok (.i2l, 1) := by decide +kernel
theorem dX7_expectedReach_106 : decode cX7_expectedReach 106 = .ok (.goto 6, 3) := by decide +kernel
theorem dX7_expectedReach_109 : decode cX7_expectedReach 109 = .ok (.ldc2_w 193, 3) := by decide +kernel
theorem dX7_expectedReach_112 : decode cX7_expectedReach 112 = .ok (.lmul, 1) := by decide +kernel
theorem dX7_expectedReach_113 : decode cX7_expectedReach 113 = .ok (.lstore 6, 2) := by decide +kernel
theorem dX7_expectedReach_115 : decode cX7_expectedReach 115 = .ok (.iinc 8 1, 3) := by decide +kernel
theorem dX7_expectedReach_118 : decode cX7_expectedReach 118 = .ok (.goto (-38), 3) := by decide +kernel
theorem dX7_expectedReach_121 : decode cX7_expectedReach 121 = .ok (.lload_n 3, 1) := by decide +kernel
theorem dX7_expectedReach_122 : decode cX7_expectedReach 122 = .ok (.lload 6, 2) := by decide +kernel
theorem dX7_expectedReach_124 : decode cX7_expectedReach 124 = .ok (.ladd, 1) := by decide +kernel
theorem dX7_expectedReach_125 : decode cX7_expectedReach 125 = .ok (.lstore_n 3, 1) := by decide +kernel
theorem dX7_expectedReach_126 : decode cX7_expectedReach 126 = .ok (.iinc 5 1, 3) := by decide +kernel
theorem dX7_expectedReach_129 : decode cX7_expectedReach 129 = .ok (.goto (-87), 3) := by decide +kernel
theorem dX7_expectedReach_132 : decode cX7_expectedReach 132 = .ok (.lload_n 3, 1) := by decide +kernel
theorem dX7_expectedReach_133 : decode cX7_expectedReach 133 = .ok (.lreturn, 1) := by decide +kernel
theorem dX7_observe_0 : decode cX7_observe 0 = .ok (.iload_n 1, 1) := by decide +kernel
theorem dX7_observe_1 : decode cX7_observe 1 = .ok (.i2l, 1) := by decide +kernel
theorem dX7_observe_2 : decode cX7_observe 2 = .ok (.lconst 0, 1) := by decide +kernel
theorem dX7_observe_3 : decode cX7_observe 3 = .ok (.ldc2_w 197, 3) := by decide +kernel
theorem dX7_observe_6 : decode cX7_observe 6 = .ok (.invokestatic 60, 3) := by decide +kernel
theorem dX7_observe_9 : decode cX7_observe 9 = .ok (.ifCond .eq 27, 3) := by decide +kernel
theorem dX7_observe_12 : decode cX7_observe 12 = .ok (.iload_n 2, 1) := by decide +kernel
theorem dX7_observe_13 : decode cX7_observe 13 = .ok (.i2l, 1) := by decide +kernel
theorem dX7_observe_14 : decode cX7_observe 14 = .ok (.lconst 0, 1) := by decide +kernel
theorem dX7_observe_15 : decode cX7_observe 15 = .ok (.ldc2_w 197, 3) := by decide +kernel
theorem dX7_observe_18 : decode cX7_observe 18 = .ok (.invokestatic 60, 3) := by decide +kernel
theorem dX7_observe_21 : decode cX7_observe 21 = .ok (.ifCond .eq 15, 3) := by decide +kernel
theorem dX7_observe_24 : decode cX7_observe 24 = .ok (.iload_n 3, 1) := by decide +kernel
theorem dX7_observe_25 : decode cX7_observe 25 = .ok (.i2l, 1) := by decide +kernel
theorem dX7_observe_26 : decode cX7_observe 26 = .ok (.lconst 0, 1) := by decide +kernel
theorem dX7_observe_27 : decode cX7_observe 27 = .ok (.ldc2_w 199, 3) := by decide +kernel
theorem dX7_observe_30 : decode cX7_observe 30 = .ok (.invokestatic 60, 3) := by decide +kernel
theorem dX7_observe_33 : decode cX7_observe 33 = .ok (.ifCond .ne 6, 3) := by decide +kernel
theorem dX7_observe_36 : decode cX7_observe 36 = .ok (.bipush (-2), 2) := by decide +kernel
theorem dX7_observe_38 : decode cX7_observe 38 = .ok (.ireturn, 1) := by decide +kernel
theorem dX7_observe_39 : decode cX7_observe 39 = .ok (.aload_n 0, 1) := by decide +kernel
theorem dX7_observe_40 : decode cX7_observe 40 = .ok (.getfield 201, 3) := by decide +kernel
theorem dX7_observe_43 : decode cX7_observe 43 = .ok (.bipush 6, 2) := by decide +kernel
theorem dX7_observe_45 : decode cX7_observe 45 = .ok (.if_icmp .ne 45, 3) := by decide +kernel
theorem dX7_observe_48 : decode cX7_observe 48 = .ok (.iconst 0, 1) := by decide +kernel
theorem dX7_observe_49 : decode cX7_observe 49 = .ok (.istore 4, 2) := by decide +kernel
theorem dX7_observe_51 : decode cX7_observe 51 = .ok (.iload 4, 2) := by decide +kernel
theorem dX7_observe_53 : decode cX7_observe 53 = .ok (.bipush 15, 2) := by decide +kernel
theorem dX7_observe_55 : decode cX7_observe 55 = .ok (.if_icmp .ge 25, 3) := by decide +kernel
theorem dX7_observe_58 : decode cX7_observe 58 = .ok (.aload_n 0, 1) := by decide +kernel
theorem dX7_observe_59 : decode cX7_observe 59 = .ok (.getfield 32, 3) := by decide +kernel
theorem dX7_observe_62 : decode cX7_observe 62 = .ok (.iload 4, 2) := by decide +kernel
theorem dX7_observe_64 : decode cX7_observe 64 = .ok (.aload_n 0, 1) := by decide +kernel
theorem dX7_observe_65 : decode cX7_observe 65 = .ok (.getfield 32, 3) := by decide +kernel
theorem dX7_observe_68 : decode cX7_observe 68 = .ok (.iload 4, 2) := by decide +kernel
theorem dX7_observe_70 : decode cX7_observe 70 = .ok (.iconst 3, 1) := by decide +kernel
theorem dX7_observe_71 : decode cX7_observe 71 = .ok (.iadd, 1) := by decide +kernel
theorem dX7_observe_72 : decode cX7_observe 72 = .ok (.iaload, 1) := by decide +kernel
theorem dX7_observe_73 : decode cX7_observe 73 = .ok (.iastore, 1) := by decide +kernel
theorem dX7_observe_74 : decode cX7_observe 74 = .ok (.iinc 4 1, 3) := by decide +kernel
theorem dX7_observe_77 : decode cX7_observe 77 = .ok (.goto (-26), 3) := by decide +kernel
theorem dX7_observe_80 : decode cX7_observe 80 = .ok (.aload_n 0, 1) := by decide +kernel
theorem dX7_observe_81 : decode cX7_observe 81 = .ok (.dup, 1) := by decide +kernel
theorem dX7_observe_82 : decode cX7_observe 82 = .ok (.getfield 201, 3) := by decide +kernel
theorem dX7_observe_85 : decode cX7_observe 85 = .ok (.iconst 1, 1) := by decide +kernel
theorem dX7_observe_86 : decode cX7_observe 86 = .ok (.isub, 1) := by decide +kernel
theorem dX7_observe_87 : decode cX7_observe 87 = .ok (.putfield 201, 3) := by decide +kernel
theorem dX7_observe_90 : decode cX7_observe 90 = .ok (.aload_n 0, 1) := by decide +kernel
theorem dX7_observe_91 : decode cX7_observe 91 = .ok (.getfield 32, 3) := by decide +kernel
theorem dX7_observe_94 : decode cX7_observe 94 = .ok (.iconst 3, 1) := by decide +kernel
theorem dX7_observe_95 : decode cX7_observe 95 = .ok (.aload_n 0, 1) := by decide +kernel
theorem dX7_observe_96 : decode cX7_observe 96 = .ok (.getfield 201, 3) := by decide +kernel
theorem dX7_observe_99 : decode cX7_observe 99 = .ok (.imul, 1) := by decide +kernel
theorem dX7_observe_100 : decode cX7_observe 100 = .ok (.iload_n 1, 1) := by decide +kernel
theorem dX7_observe_101 : decode cX7_observe 101 = .ok (.iastore, 1) := by decide +kernel
theorem dX7_observe_102 : decode cX7_observe 102 = .ok (.aload_n 0, 1) := by decide +kernel
theorem dX7_observe_103 : decode cX7_observe 103 = .ok (.getfield 32, 3) := by decide +kernel
theorem dX7_observe_106 : decode cX7_observe 106 = .ok (.iconst 3, 1) := by decide +kernel
theorem dX7_observe_107 : decode cX7_observe 107 = .ok (.aload_n 0, 1) := by decide +kernel
theorem dX7_observe_108 : decode cX7_observe 108 = .ok (.getfield 201, 3) := by decide +kernel
theorem dX7_observe_111 : decode cX7_observe 111 = .ok (.imul, 1) := by decide +kernel
theorem dX7_observe_112 : decode cX7_observe 112 = .ok (.iconst 1, 1) := by decide +kernel
theorem dX7_observe_113 : decode cX7_observe 113 = .ok (.iadd, 1) := by decide +kernel
theorem dX7_observe_114 : decode cX7_observe 114 = .ok (.iload_n 2, 1) := by decide +kernel
theorem dX7_observe_115 : decode cX7_observe 115 = .ok (.iastore, 1) := by decide +kernel
theorem dX7_observe_116 : decode cX7_observe 116 = .ok (.aload_n 0, 1) := by decide +kernel
theorem dX7_observe_117 : decode cX7_observe 117 = .ok (.getfield 32, 3) := by decide +kernel
theorem dX7_observe_120 : decode cX7_observe 120 = .ok (.iconst 3, 1) := by decide +kernel
theorem dX7_observe_121 : decode cX7_observe 121 = .ok (.aload_n 0, 1) := by decide +kernel
theorem dX7_observe_122 : decode cX7_observe 122 = .ok (.getfield 201, 3) := by decide +kernel
theorem dX7_observe_125 : decode cX7_observe 125 = .ok (.imul, 1) := by decide +kernel
theorem dX7_observe_126 : decode cX7_observe 126 = .ok (.iconst 2, 1) := by decide +kernel
theorem dX7_observe_127 : decode cX7_observe 127 = .ok (.iadd, 1) := by decide +kernel
theorem dX7_observe_128 : decode cX7_observe 128 = .ok (.iload_n 3, 1) := by decide +kernel
theorem dX7_observe_129 : decode cX7_observe 129 = .ok (.iastore, 1) := by decide +kernel
theorem dX7_observe_130 : decode cX7_observe 130 = .ok (.aload_n 0, 1) := by decide +kernel
theorem dX7_observe_131 : decode cX7_observe 131 = .ok (.dup, 1) := by decide +kernel
theorem dX7_observe_132 : decode cX7_observe 132 = .ok (.getfield 201, 3) := by decide +kernel
theorem dX7_observe_135 : decode cX7_observe 135 = .ok (.iconst 1, 1) := by decide +kernel
theorem dX7_observe_136 : decode cX7_observe 136 = .ok (.iadd, 1) := by decide +kernel
theorem dX7_observe_137 : decode cX7_observe 137 = .ok (.putfield 201, 3) := by decide +kernel
theorem dX7_observe_140 : decode cX7_observe 140 = .ok (.aload_n 0, 1) := by decide +kernel
theorem dX7_observe_141 : decode cX7_observe 141 = .ok (.getfield 201, 3) := by decide +kernel
theorem dX7_observe_144 : decode cX7_observe 144 = .ok (.ireturn, 1) := by decide +kernel
theorem dX7_agrees_0 : decode cX7_agrees 0 = .ok (.iconst 1, 1) := by decide +kernel
theorem dX7_agrees_1 : decode cX7_agrees 1 = .ok (.istore_n 2, 1) := by decide +kernel
theorem dX7_agrees_2 : decode cX7_agrees 2 = .ok (.iconst 0, 1) := by decide +kernel
theorem dX7_agrees_3 : decode cX7_agrees 3 = .ok (.istore_n 3, 1) := by decide +kernel
theorem dX7_agrees_4 : decode cX7_agrees 4 = .ok (.iload_n 3, 1) := by decide +kernel
theorem dX7_agrees_5 : decode cX7_agrees 5 = .ok (.aload_n 0, 1) := by decide +kernel
theorem dX7_agrees_6 : decode cX7_agrees 6 = .ok (.getfield 201, 3) := by decide +kernel
theorem dX7_agrees_9 : decode cX7_agrees 9 = .ok (.if_icmp .ge 81, 3) := by decide +kernel
theorem dX7_agrees_12 : decode cX7_agrees 12 = .ok (.aload_n 0, 1) := by decide +kernel
theorem dX7_agrees_13 : decode cX7_agrees 13 = .ok (.getfield 32, 3) := by decide +kernel
theorem dX7_agrees_16 : decode cX7_agrees 16 = .ok (.iconst 3, 1) := by decide +kernel
theorem dX7_agrees_17 : decode cX7_agrees 17 = .ok (.iload_n 3, 1) := by decide +kernel
theorem dX7_agrees_18 : decode cX7_agrees 18 = .ok (.imul, 1) := by decide +kernel
theorem dX7_agrees_19 : decode cX7_agrees 19 = .ok (.iaload, 1) := by decide +kernel
theorem dX7_agrees_20 : decode cX7_agrees 20 = .ok (.istore 4, 2) := by decide +kernel
theorem dX7_agrees_22 : decode cX7_agrees 22 = .ok (.aload_n 0, 1) := by decide +kernel
theorem dX7_agrees_23 : decode cX7_agrees 23 = .ok (.getfield 32, 3) := by decide +kernel
theorem dX7_agrees_26 : decode cX7_agrees 26 = .ok (.iconst 3, 1) := by decide +kernel
theorem dX7_agrees_27 : decode cX7_agrees 27 = .ok (.iload_n 3, 1) := by decide +kernel
theorem dX7_agrees_28 : decode cX7_agrees 28 = .ok (.imul, 1) := by decide +kernel
theorem dX7_agrees_29 : decode cX7_agrees 29 = .ok (.iconst 1, 1) := by decide +kernel
theorem dX7_agrees_30 : decode cX7_agrees 30 = .ok (.iadd, 1) := by decide +kernel
theorem dX7_agrees_31 : decode cX7_agrees 31 = .ok (.iaload, 1) := by decide +kernel
theorem dX7_agrees_32 : decode cX7_agrees 32 = .ok (.istore 5, 2) := by decide +kernel
theorem dX7_agrees_34 : decode cX7_agrees 34 = .ok (.iload_n 2, 1) := by decide +kernel
theorem dX7_agrees_35 : decode cX7_agrees 35 = .ok (.ifCond .eq 47, 3) := by decide +kernel
theorem dX7_agrees_38 : decode cX7_agrees 38 = .ok (.aload_n 0, 1) := by decide +kernel
theorem dX7_agrees_39 : decode cX7_agrees 39 = .ok (.iload 4, 2) := by decide +kernel
theorem dX7_agrees_41 : decode cX7_agrees 41 = .ok (.invokevirtual 128, 3) := by decide +kernel
theorem dX7_agrees_44 : decode cX7_agrees 44 = .ok (.ifCond .eq 38, 3) := by decide +kernel
theorem dX7_agrees_47 : decode cX7_agrees 47 = .ok (.aload_n 0, 1) := by decide +kernel
theorem dX7_agrees_48 : decode cX7_agrees 48 = .ok (.iload 5, 2) := by decide +kernel
theorem dX7_agrees_50 : decode cX7_agrees 50 = .ok (.invokevirtual 128, 3) := by decide +kernel
theorem dX7_agrees_53 : decode cX7_agrees 53 = .ok (.ifCond .eq 29, 3) := by decide +kernel
theorem dX7_agrees_56 : decode cX7_agrees 56 = .ok (.aload_n 0, 1) := by decide +kernel
theorem dX7_agrees_57 : decode cX7_agrees 57 = .ok (.aload_n 1, 1) := by decide +kernel
theorem dX7_agrees_58 : decode cX7_agrees 58 = .ok (.iload 4, 2) := by decide +kernel
theorem dX7_agrees_60 : decode cX7_agrees 60 = .ok (.iload 5, 2) := by decide +kernel
theorem dX7_agrees_62 : decode cX7_agrees 62 = .ok (.invokevirtual 72, 3) := by decide +kernel
theorem dX7_agrees_65 : decode cX7_agrees 65 = .ok (.aload_n 0, 1) := by decide +kernel
theorem dX7_agrees_66 : decode cX7_agrees 66 = .ok (.getfield 32, 3) := by decide +kernel
theorem dX7_agrees_69 : decode cX7_agrees 69 = .ok (.iconst 3, 1) := by decide +kernel
theorem dX7_agrees_70 : decode cX7_agrees 70 = .ok (.iload_n 3, 1) := by decide +kernel
theorem dX7_agrees_71 : decode cX7_agrees 71 = .ok (.imul, 1) := by decide +kernel
theorem dX7_agrees_72 : decode cX7_agrees 72 = .ok (.iconst 2, 1) := by decide +kernel
theorem dX7_agrees_73 : decode cX7_agrees 73 = .ok (.iadd, 1) := by decide +kernel
theorem dX7_agrees_74 : decode cX7_agrees 74 = .ok (.iaload, 1) := by decide +kernel
theorem dX7_agrees_75 : decode cX7_agrees 75 = .ok (.if_icmp .ne 7, 3) := by decide +kernel
theorem dX7_agrees_78 : decode cX7_agrees 78 = .ok (.iconst 1, 1) := by decide +kernel
theorem dX7_agrees_79 : decode cX7_agrees 79 = .ok (.goto 4, 3) := by decide +kernel
theorem dX7_agrees_82 : decode cX7_agrees 82 = .ok (.iconst 0, 1) := by decide +kernel
theorem dX7_agrees_83 : decode cX7_agrees 83 = .ok (.istore_n 2, 1) := by decide +kernel
theorem dX7_agrees_84 : decode cX7_agrees 84 = .ok (.iinc 3 1, 3) := by decide +kernel
theorem dX7_agrees_87 : decode cX7_agrees 87 = .ok (.goto (-83), 3) := by decide +kernel
theorem dX7_agrees_90 : decode cX7_agrees 90 = .ok (.iload_n 2, 1) := by decide +kernel
theorem dX7_agrees_91 : decode cX7_agrees 91 = .ok (.ireturn, 1) := by decide +kernel
theorem dX7_possibleWeights_0 : decode cX7_possibleWeights 0 = .ok (.aload_n 0, 1) := by decide +kernel
theorem dX7_possibleWeights_1 : decode cX7_possibleWeights 1 = .ok (.aload_n 0, 1) := by decide +kernel
theorem dX7_possibleWeights_2 : decode cX7_possibleWeights 2 = .ok (.getfield 13, 3) := by decide +kernel
theorem dX7_possibleWeights_5 : decode cX7_possibleWeights 5 = .ok (.iload_n 1, 1) := by decide +kernel
theorem dX7_possibleWeights_6 : decode cX7_possibleWeights 6 = .ok (.iload_n 2, 1) := by decide +kernel
theorem dX7_possibleWeights_7 : decode cX7_possibleWeights 7 = .ok (.iconst 1, 1) := by decide +kernel
theorem dX7_possibleWeights_8 : decode cX7_possibleWeights 8 = .ok (.invokevirtual 144, 3) := by decide +kernel
theorem dX7_possibleWeights_11 : decode cX7_possibleWeights 11 = .ok (.istore_n 3, 1) := by decide +kernel
theorem dX7_possibleWeights_12 : decode cX7_possibleWeights 12 = .ok (.iload_n 3, 1) := by decide +kernel
theorem dX7_possibleWeights_13 : decode cX7_possibleWeights 13 = .ok (.ifCond .eq 5, 3) := by decide +kernel
theorem dX7_possibleWeights_16 : decode cX7_possibleWeights 16 = .ok (.iload_n 3, 1) := by decide +kernel
theorem dX7_possibleWeights_17 : decode cX7_possibleWeights 17 = .ok (.ireturn, 1) := by decide +kernel
theorem dX7_possibleWeights_18 : decode cX7_possibleWeights 18 = .ok (.aload_n 0, 1) := by decide +kernel
theorem dX7_possibleWeights_19 : decode cX7_possibleWeights 19 = .ok (.getfield 13, 3) := by decide +kernel
theorem dX7_possibleWeights_22 : decode cX7_possibleWeights 22 = .ok (.aload_n 0, 1) := by decide +kernel
theorem dX7_possibleWeights_23 : decode cX7_possibleWeights 23 = .ok (.getfield 16, 3) := by decide +kernel
theorem dX7_possibleWeights_26 : decode cX7_possibleWeights 26 = .ok (.invokestatic 117, 3) := by decide +kernel
theorem dX7_possibleWeights_29 : decode cX7_possibleWeights 29 = .ok (.iconst 0, 1) := by decide +kernel
theorem dX7_possibleWeights_30 : decode cX7_possibleWeights 30 = .ok (.istore 4, 2) := by decide +kernel
theorem dX7_possibleWeights_32 : decode cX7_possibleWeights 32 = .ok (.iconst 1, 1) := by decide +kernel
theorem dX7_possibleWeights_33 : decode cX7_possibleWeights 33 = .ok (.istore 5, 2) := by decide +kernel
theorem dX7_possibleWeights_35 : decode cX7_possibleWeights 35 = .ok (.iload 5, 2) := by decide +kernel
theorem dX7_possibleWeights_37 : decode cX7_possibleWeights 37 = .ok (.bipush 99, 2) := by decide +kernel
theorem dX7_possibleWeights_39 : decode cX7_possibleWeights 39 = .ok (.if_icmp .gt 41, 3) := by decide +kernel
theorem dX7_possibleWeights_42 : decode cX7_possibleWeights 42 = .ok (.aload_n 0, 1) := by decide +kernel
theorem dX7_possibleWeights_43 : decode cX7_possibleWeights 43 = .ok (.getfield 16, 3) := by decide +kernel
theorem dX7_possibleWeights_46 : decode cX7_possibleWeights 46 = .ok (.iload_n 1, 1) := by decide +kernel
theorem dX7_possibleWeights_47 : decode cX7_possibleWeights 47 = .ok (.iload_n 2, 1) := by decide +kernel
theorem dX7_possibleWeights_48 : decode cX7_possibleWeights 48 = .ok (.iload 5, 2) := by decide +kernel
theorem dX7_possibleWeights_50 : decode cX7_possibleWeights 50 = .ok (.invokestatic 105, 3) := by decide +kernel
theorem dX7_possibleWeights_53 : decode cX7_possibleWeights 53 = .ok (.iload 4, 2) := by decide +kernel
theorem dX7_possibleWeights_55 : decode cX7_possibleWeights 55 = .ok (.aload_n 0, 1) := by decide +kernel
theorem dX7_possibleWeights_56 : decode cX7_possibleWeights 56 = .ok (.aload_n 0, 1) := by decide +kernel
theorem dX7_possibleWeights_57 : decode cX7_possibleWeights 57 = .ok (.getfield 16, 3) := by decide +kernel
theorem dX7_possibleWeights_60 : decode cX7_possibleWeights 60 = .ok (.invokevirtual 204, 3) := by decide +kernel
theorem dX7_possibleWeights_63 : decode cX7_possibleWeights 63 = .ok (.ifCond .eq 7, 3) := by decide +kernel
theorem dX7_possibleWeights_66 : decode cX7_possibleWeights 66 = .ok (.iconst 1, 1) := by decide +kernel
theorem dX7_possibleWeights_67 : decode cX7_possibleWeights 67 = .ok (.goto 4, 3) := by decide +kernel
theorem dX7_possibleWeights_70 : decode cX7_possibleWeights 70 = .ok (.iconst 0, 1) := by decide +kernel
theorem dX7_possibleWeights_71 : decode cX7_possibleWeights 71 = .ok (.iadd, 1) := by decide +kernel
theorem dX7_possibleWeights_72 : decode cX7_possibleWeights 72 = .ok (.istore 4, 2) := by decide +kernel
theorem dX7_possibleWeights_74 : decode cX7_possibleWeights 74 = .ok (.iinc 5 1, 3) := by decide +kernel
theorem dX7_possibleWeights_77 : decode cX7_possibleWeights 77 = .ok (.goto (-42), 3) := by decide +kernel
theorem dX7_possibleWeights_80 : decode cX7_possibleWeights 80 = .ok (.iload 4, 2) := by decide +kernel
theorem dX7_possibleWeights_82 : decode cX7_possibleWeights 82 = .ok (.ireturn, 1) := by decide +kernel
theorem dX7_command_0 : decode cX7_command 0 = .ok (.aload_n 0, 1) := by decide +kernel
theorem dX7_command_1 : decode cX7_command 1 = .ok (.iload_n 2, 1) := by decide +kernel
theorem dX7_command_2 : decode cX7_command 2 = .ok (.invokevirtual 128, 3) := by decide +kernel
theorem dX7_command_5 : decode cX7_command 5 = .ok (.ifCond .eq 28, 3) := by decide +kernel
theorem dX7_command_8 : decode cX7_command 8 = .ok (.aload_n 0, 1) := by decide +kernel
theorem dX7_command_9 : decode cX7_command 9 = .ok (.iload_n 3, 1) := by decide +kernel
theorem dX7_command_10 : decode cX7_command 10 = .ok (.invokevirtual 128, 3) := by decide +kernel
theorem dX7_command_13 : decode cX7_command 13 = .ok (.ifCond .eq 20, 3) := by decide +kernel
theorem dX7_command_16 : decode cX7_command 16 = .ok (.aload_n 0, 1) := by decide +kernel
theorem dX7_command_17 : decode cX7_command 17 = .ok (.aload_n 0, 1) := by decide +kernel
theorem dX7_command_18 : decode cX7_command 18 = .ok (.getfield 16, 3) := by decide +kernel
theorem dX7_command_21 : decode cX7_command 21 = .ok (.iload_n 2, 1) := by decide +kernel
theorem dX7_command_22 : decode cX7_command 22 = .ok (.iload_n 3, 1) := by decide +kernel
theorem dX7_command_23 : decode cX7_command 23 = .ok (.invokevirtual 98, 3) := by decide +kernel
theorem dX7_command_26 : decode cX7_command 26 = .ok (.ifCond .eq 7, 3) := by decide +kernel
theorem dX7_command_29 : decode cX7_command 29 = .ok (.iconst 1, 1) := by decide +kernel
theorem dX7_command_30 : decode cX7_command 30 = .ok (.goto 4, 3) := by decide +kernel
theorem dX7_command_33 : decode cX7_command 33 = .ok (.iconst 0, 1) := by decide +kernel
theorem dX7_command_34 : decode cX7_command 34 = .ok (.istore 4, 2) := by decide +kernel
theorem dX7_command_36 : decode cX7_command 36 = .ok (.iload_n 1, 1) := by decide +kernel
theorem dX7_command_37 : decode cX7_command 37 = .ok (.tableswitch 183 1 5 #[35, 63, 91, 94, 119], 35) := by decide +kernel
theorem dX7_command_72 : decode cX7_command 72 = .ok (.aload_n 0, 1) := by decide +kernel
theorem dX7_command_73 : decode cX7_command 73 = .ok (.aload_n 0, 1) := by decide +kernel
theorem dX7_command_74 : decode cX7_command 74 = .ok (.getfield 16, 3) := by decide +kernel
theorem dX7_command_77 : decode cX7_command 77 = .ok (.iload_n 2, 1) := by decide +kernel
theorem dX7_command_78 : decode cX7_command 78 = .ok (.iload_n 3, 1) := by decide +kernel
theorem dX7_command_79 : decode cX7_command 79 = .ok (.iconst 1, 1) := by decide +kernel
theorem dX7_command_80 : decode cX7_command 80 = .ok (.invokevirtual 137, 3) := by decide +kernel
theorem dX7_command_83 : decode cX7_command 83 = .ok (.ifCond .eq 5, 3) := by decide +kernel
theorem dX7_command_86 : decode cX7_command 86 = .ok (.iconst 0, 1) := by decide +kernel
theorem dX7_command_87 : decode cX7_command 87 = .ok (.ireturn, 1) := by decide +kernel
theorem dX7_command_88 : decode cX7_command 88 = .ok (.aload_n 0, 1) := by decide +kernel
theorem dX7_command_89 : decode cX7_command 89 = .ok (.getfield 16, 3) := by decide +kernel
theorem dX7_command_92 : decode cX7_command 92 = .ok (.iload_n 2, 1) := by decide +kernel
theorem dX7_command_93 : decode cX7_command 93 = .ok (.iload_n 3, 1) := by decide +kernel
theorem dX7_command_94 : decode cX7_command 94 = .ok (.iconst 1, 1) := by decide +kernel
theorem dX7_command_95 : decode cX7_command 95 = .ok (.invokestatic 105, 3) := by decide +kernel
theorem dX7_command_98 : decode cX7_command 98 = .ok (.iconst 1, 1) := by decide +kernel
theorem dX7_command_99 : decode cX7_command 99 = .ok (.ireturn, 1) := by decide +kernel
theorem dX7_command_100 : decode cX7_command 100 = .ok (.aload_n 0, 1) := by decide +kernel
theorem dX7_command_101 : decode cX7_command 101 = .ok (.aload_n 0, 1) := by decide +kernel
theorem dX7_command_102 : decode cX7_command 102 = .ok (.getfield 16, 3) := by decide +kernel
theorem dX7_command_105 : decode cX7_command 105 = .ok (.iload_n 2, 1) := by decide +kernel
theorem dX7_command_106 : decode cX7_command 106 = .ok (.iload_n 3, 1) := by decide +kernel
theorem dX7_command_107 : decode cX7_command 107 = .ok (.iconst 1, 1) := by decide +kernel
theorem dX7_command_108 : decode cX7_command 108 = .ok (.invokevirtual 144, 3) := by decide +kernel
theorem dX7_command_111 : decode cX7_command 111 = .ok (.ifCond .eq 5, 3) := by decide +kernel
theorem dX7_command_114 : decode cX7_command 114 = .ok (.iconst 0, 1) := by decide +kernel
theorem dX7_command_115 : decode cX7_command 115 = .ok (.ireturn, 1) := by decide +kernel
theorem dX7_command_116 : decode cX7_command 116 = .ok (.aload_n 0, 1) := by decide +kernel
theorem dX7_command_117 : decode cX7_command 117 = .ok (.getfield 16, 3) := by decide +kernel
theorem dX7_command_120 : decode cX7_command 120 = .ok (.iload_n 2, 1) := by decide +kernel
theorem dX7_command_121 : decode cX7_command 121 = .ok (.iload_n 3, 1) := by decide +kernel
theorem dX7_command_122 : decode cX7_command 122 = .ok (.iconst 0, 1) := by decide +kernel
theorem dX7_command_123 : decode cX7_command 123 = .ok (.invokestatic 105, 3) := by decide +kernel
theorem dX7_command_126 : decode cX7_command 126 = .ok (.iconst 1, 1) := by decide +kernel
theorem dX7_command_127 : decode cX7_command 127 = .ok (.ireturn, 1) := by decide +kernel
theorem dX7_command_128 : decode cX7_command 128 = .ok (.iload 4, 2) := by decide +kernel
theorem dX7_command_130 : decode cX7_command 130 = .ok (.ireturn, 1) := by decide +kernel
theorem dX7_command_131 : decode cX7_command 131 = .ok (.iload 4, 2) := by decide +kernel
theorem dX7_command_133 : decode cX7_command 133 = .ok (.ifCond .eq 21, 3) := by decide +kernel
theorem dX7_command_136 : decode cX7_command 136 = .ok (.aload_n 0, 1) := by decide +kernel
theorem dX7_command_137 : decode cX7_command 137 = .ok (.aload_n 0, 1) := by decide +kernel
theorem dX7_command_138 : decode cX7_command 138 = .ok (.getfield 16, 3) := by decide +kernel
theorem dX7_command_141 : decode cX7_command 141 = .ok (.iload_n 2, 1) := by decide +kernel
theorem dX7_command_142 : decode cX7_command 142 = .ok (.iconst 0, 1) := by decide +kernel
theorem dX7_command_143 : decode cX7_command 143 = .ok (.invokevirtual 150, 3) := by decide +kernel
theorem dX7_command_146 : decode cX7_command 146 = .ok (.iload_n 3, 1) := by decide +kernel
theorem dX7_command_147 : decode cX7_command 147 = .ok (.if_icmp .ne 7, 3) := by decide +kernel
theorem dX7_command_150 : decode cX7_command 150 = .ok (.iconst 1, 1) := by decide +kernel
theorem dX7_command_151 : decode cX7_command 151 = .ok (.goto 4, 3) := by decide +kernel
theorem dX7_command_154 : decode cX7_command 154 = .ok (.iconst 0, 1) := by decide +kernel
theorem dX7_command_155 : decode cX7_command 155 = .ok (.ireturn, 1) := by decide +kernel
theorem dX7_command_156 : decode cX7_command 156 = .ok (.iload 4, 2) := by decide +kernel
theorem dX7_command_158 : decode cX7_command 158 = .ok (.ifCond .eq 8, 3) := by decide +kernel
theorem dX7_command_161 : decode cX7_command 161 = .ok (.iload_n 2, 1) := by decide +kernel
theorem dX7_command_162 : decode cX7_command 162 = .ok (.iload_n 3, 1) := by decide +kernel
theorem dX7_command_163 : decode cX7_command 163 = .ok (.if_icmp .ne 5, 3) := by decide +kernel
theorem dX7_command_166 : decode cX7_command 166 = .ok (.iconst 0, 1) := by decide +kernel
theorem dX7_command_167 : decode cX7_command 167 = .ok (.ireturn, 1) := by decide +kernel
theorem dX7_command_168 : decode cX7_command 168 = .ok (.aload_n 0, 1) := by decide +kernel
theorem dX7_command_169 : decode cX7_command 169 = .ok (.aload_n 0, 1) := by decide +kernel
theorem dX7_command_170 : decode cX7_command 170 = .ok (.getfield 16, 3) := by decide +kernel
theorem dX7_command_173 : decode cX7_command 173 = .ok (.iload_n 2, 1) := by decide +kernel
theorem dX7_command_174 : decode cX7_command 174 = .ok (.invokevirtual 185, 3) := by decide +kernel
theorem dX7_command_177 : decode cX7_command 177 = .ok (.aload_n 0, 1) := by decide +kernel
theorem dX7_command_178 : decode cX7_command 178 = .ok (.getfield 53, 3) := by decide +kernel
theorem dX7_command_181 : decode cX7_command 181 = .ok (.iload_n 2, 1) := by decide +kernel
theorem dX7_command_182 : decode cX7_command 182 = .ok (.iaload, 1) := by decide +kernel
theorem dX7_command_183 : decode cX7_command 183 = .ok (.bipush (-9), 2) := by decide +kernel
theorem dX7_command_185 : decode cX7_command 185 = .ok (.if_icmp .eq 33, 3) := by decide +kernel
theorem dX7_command_188 : decode cX7_command 188 = .ok (.aload_n 0, 1) := by decide +kernel
theorem dX7_command_189 : decode cX7_command 189 = .ok (.getfield 53, 3) := by decide +kernel
theorem dX7_command_192 : decode cX7_command 192 = .ok (.iload_n 3, 1) := by decide +kernel
theorem dX7_command_193 : decode cX7_command 193 = .ok (.iaload, 1) := by decide +kernel
theorem dX7_command_194 : decode cX7_command 194 = .ok (.bipush (-9), 2) := by decide +kernel
theorem dX7_command_196 : decode cX7_command 196 = .ok (.if_icmp .eq 18, 3) := by decide +kernel
theorem dX7_command_199 : decode cX7_command 199 = .ok (.aload_n 0, 1) := by decide +kernel
theorem dX7_command_200 : decode cX7_command 200 = .ok (.getfield 53, 3) := by decide +kernel
theorem dX7_command_203 : decode cX7_command 203 = .ok (.iload_n 2, 1) := by decide +kernel
theorem dX7_command_204 : decode cX7_command 204 = .ok (.iaload, 1) := by decide +kernel
theorem dX7_command_205 : decode cX7_command 205 = .ok (.aload_n 0, 1) := by decide +kernel
theorem dX7_command_206 : decode cX7_command 206 = .ok (.getfield 53, 3) := by decide +kernel
theorem dX7_command_209 : decode cX7_command 209 = .ok (.iload_n 3, 1) := by decide +kernel
theorem dX7_command_210 : decode cX7_command 210 = .ok (.iaload, 1) := by decide +kernel
theorem dX7_command_211 : decode cX7_command 211 = .ok (.if_icmp .ge 7, 3) := by decide +kernel
theorem dX7_command_214 : decode cX7_command 214 = .ok (.iconst 1, 1) := by decide +kernel
theorem dX7_command_215 : decode cX7_command 215 = .ok (.goto 4, 3) := by decide +kernel
theorem dX7_command_218 : decode cX7_command 218 = .ok (.iconst 0, 1) := by decide +kernel
theorem dX7_command_219 : decode cX7_command 219 = .ok (.ireturn, 1) := by decide +kernel
theorem dX7_command_220 : decode cX7_command 220 = .ok (.iconst 0, 1) := by decide +kernel
theorem dX7_command_221 : decode cX7_command 221 = .ok (.ireturn, 1) := by decide +kernel
theorem dX7_hundredThousands_0 : decode cX7_hundredThousands 0 = .ok (.lconst 1, 1) := by decide +kernel
theorem dX7_hundredThousands_1 : decode cX7_hundredThousands 1 = .ok (.lstore_n 1, 1) := by decide +kernel
theorem dX7_hundredThousands_2 : decode cX7_hundredThousands 2 = .ok (.iconst 0, 1) := by decide +kernel
theorem dX7_hundredThousands_3 : decode cX7_hundredThousands 3 = .ok (.istore_n 3, 1) := by decide +kernel
theorem dX7_hundredThousands_4 : decode cX7_hundredThousands 4 = .ok (.iload_n 3, 1) := by decide +kernel
theorem dX7_hundredThousands_5 : decode cX7_hundredThousands 5 = .ok (.iload_n 0, 1) := by decide +kernel
theorem dX7_hundredThousands_6 : decode cX7_hundredThousands 6 = .ok (.if_icmp .ge 15, 3) := by decide +kernel
theorem dX7_hundredThousands_9 : decode cX7_hundredThousands 9 = .ok (.lload_n 1, 1) := by decide +kernel
theorem dX7_hundredThousands_10 : decode cX7_hundredThousands 10 = .ok (.ldc2_w 208, 3) := by decide +kernel
theorem dX7_hundredThousands_13 : decode cX7_hundredThousands 13 = .ok (.lmul, 1) := by decide +kernel
theorem dX7_hundredThousands_14 : decode cX7_hundredThousands 14 = .ok (.lstore_n 1, 1) := by decide +kernel
theorem dX7_hundredThousands_15 : decode cX7_hundredThousands 15 = .ok (.iinc 3 1, 3) := by decide +kernel
theorem dX7_hundredThousands_18 : decode cX7_hundredThousands 18 = .ok (.goto (-14), 3) := by decide +kernel
theorem dX7_hundredThousands_21 : decode cX7_hundredThousands 21 = .ok (.lload_n 1, 1) := by decide +kernel
theorem dX7_hundredThousands_22 : decode cX7_hundredThousands 22 = .ok (.lreturn, 1) := by decide +kernel
theorem dX7_runScript_0 : decode cX7_runScript 0 = .ok (.iload_n 1, 1) := by decide +kernel
theorem dX7_runScript_1 : decode cX7_runScript 1 = .ok (.i2l, 1) := by decide +kernel
theorem dX7_runScript_2 : decode cX7_runScript 2 = .ok (.lconst 1, 1) := by decide +kernel
theorem dX7_runScript_3 : decode cX7_runScript 3 = .ok (.ldc2_w 210, 3) := by decide +kernel
theorem dX7_runScript_6 : decode cX7_runScript 6 = .ok (.invokestatic 60, 3) := by decide +kernel
theorem dX7_runScript_9 : decode cX7_runScript 9 = .ok (.ifCond .eq 17, 3) := by decide +kernel
theorem dX7_runScript_12 : decode cX7_runScript 12 = .ok (.lload_n 2, 1) := by decide +kernel
theorem dX7_runScript_13 : decode cX7_runScript 13 = .ok (.lconst 0, 1) := by decide +kernel
theorem dX7_runScript_14 : decode cX7_runScript 14 = .ok (.iload_n 1, 1) := by decide +kernel
theorem dX7_runScript_15 : decode cX7_runScript 15 = .ok (.invokestatic 212, 3) := by decide +kernel
theorem dX7_runScript_18 : decode cX7_runScript 18 = .ok (.lconst 1, 1) := by decide +kernel
theorem dX7_runScript_19 : decode cX7_runScript 19 = .ok (.lsub, 1) := by decide +kernel
theorem dX7_runScript_20 : decode cX7_runScript 20 = .ok (.invokestatic 60, 3) := by decide +kernel
theorem dX7_runScript_23 : decode cX7_runScript 23 = .ok (.ifCond .ne 6, 3) := by decide +kernel
theorem dX7_runScript_26 : decode cX7_runScript 26 = .ok (.bipush (-2), 2) := by decide +kernel
theorem dX7_runScript_28 : decode cX7_runScript 28 = .ok (.ireturn, 1) := by decide +kernel
theorem dX7_runScript_29 : decode cX7_runScript 29 = .ok (.aload_n 0, 1) := by decide +kernel
theorem dX7_runScript_30 : decode cX7_runScript 30 = .ok (.getfield 13, 3) := by decide +kernel
theorem dX7_runScript_33 : decode cX7_runScript 33 = .ok (.aload_n 0, 1) := by decide +kernel
theorem dX7_runScript_34 : decode cX7_runScript 34 = .ok (.getfield 16, 3) := by decide +kernel
theorem dX7_runScript_37 : decode cX7_runScript 37 = .ok (.invokestatic 117, 3) := by decide +kernel
theorem dX7_runScript_40 : decode cX7_runScript 40 = .ok (.iconst 0, 1) := by decide +kernel
theorem dX7_runScript_41 : decode cX7_runScript 41 = .ok (.istore 4, 2) := by decide +kernel
theorem dX7_runScript_43 : decode cX7_runScript 43 = .ok (.iload 4, 2) := by decide +kernel
theorem dX7_runScript_45 : decode cX7_runScript 45 = .ok (.iload_n 1, 1) := by decide +kernel
theorem dX7_runScript_46 : decode cX7_runScript 46 = .ok (.if_icmp .ge 56, 3) := by decide +kernel
theorem dX7_runScript_49 : decode cX7_runScript 49 = .ok (.lload_n 2, 1) := by decide +kernel
theorem dX7_runScript_50 : decode cX7_runScript 50 = .ok (.iload_n 1, 1) := by decide +kernel
theorem dX7_runScript_51 : decode cX7_runScript 51 = .ok (.iconst 1, 1) := by decide +kernel
theorem dX7_runScript_52 : decode cX7_runScript 52 = .ok (.isub, 1) := by decide +kernel
theorem dX7_runScript_53 : decode cX7_runScript 53 = .ok (.iload 4, 2) := by decide +kernel
theorem dX7_runScript_55 : decode cX7_runScript 55 = .ok (.isub, 1) := by decide +kernel
theorem dX7_runScript_56 : decode cX7_runScript 56 = .ok (.invokestatic 212, 3) := by decide +kernel
theorem dX7_runScript_59 : decode cX7_runScript 59 = .ok (.ldiv, 1) := by decide +kernel
theorem dX7_runScript_60 : decode cX7_runScript 60 = .ok (.ldc2_w 208, 3) := by decide +kernel
theorem dX7_runScript_63 : decode cX7_runScript 63 = .ok (.lrem, 1) := by decide +kernel
theorem dX7_runScript_64 : decode cX7_runScript 64 = .ok (.l2i, 1) := by decide +kernel
theorem dX7_runScript_65 : decode cX7_runScript 65 = .ok (.istore 5, 2) := by decide +kernel
theorem dX7_runScript_67 : decode cX7_runScript 67 = .ok (.aload_n 0, 1) := by decide +kernel
theorem dX7_runScript_68 : decode cX7_runScript 68 = .ok (.iload 5, 2) := by decide +kernel
theorem dX7_runScript_70 : decode cX7_runScript 70 = .ok (.sipush 10000, 3) := by decide +kernel
theorem dX7_runScript_73 : decode cX7_runScript 73 = .ok (.idiv, 1) := by decide +kernel
theorem dX7_runScript_74 : decode cX7_runScript 74 = .ok (.iload 5, 2) := by decide +kernel
theorem dX7_runScript_76 : decode cX7_runScript 76 = .ok (.bipush 100, 2) := by decide +kernel
theorem dX7_runScript_78 : decode cX7_runScript 78 = .ok (.idiv, 1) := by decide +kernel
theorem dX7_runScript_79 : decode cX7_runScript 79 = .ok (.bipush 100, 2) := by decide +kernel
theorem dX7_runScript_81 : decode cX7_runScript 81 = .ok (.irem, 1) := by decide +kernel
theorem dX7_runScript_82 : decode cX7_runScript 82 = .ok (.iload 5, 2) := by decide +kernel
theorem dX7_runScript_84 : decode cX7_runScript 84 = .ok (.bipush 100, 2) := by decide +kernel
theorem dX7_runScript_86 : decode cX7_runScript 86 = .ok (.irem, 1) := by decide +kernel
theorem dX7_runScript_87 : decode cX7_runScript 87 = .ok (.invokevirtual 216, 3) := by decide +kernel
theorem dX7_runScript_90 : decode cX7_runScript 90 = .ok (.ifCond .ne 6, 3) := by decide +kernel
theorem dX7_runScript_93 : decode cX7_runScript 93 = .ok (.iload 4, 2) := by decide +kernel
theorem dX7_runScript_95 : decode cX7_runScript 95 = .ok (.ireturn, 1) := by decide +kernel
theorem dX7_runScript_96 : decode cX7_runScript 96 = .ok (.iinc 4 1, 3) := by decide +kernel
theorem dX7_runScript_99 : decode cX7_runScript 99 = .ok (.goto (-56), 3) := by decide +kernel
theorem dX7_runScript_102 : decode cX7_runScript 102 = .ok (.bipush (-9), 2) := by decide +kernel
theorem dX7_runScript_104 : decode cX7_runScript 104 = .ok (.ireturn, 1) := by decide +kernel
theorem dX7_randomChanges_0 : decode cX7_randomChanges 0 = .ok (.iload_n 3, 1) := by decide +kernel
theorem dX7_randomChanges_1 : decode cX7_randomChanges 1 = .ok (.i2l, 1) := by decide +kernel
theorem dX7_randomChanges_2 : decode cX7_randomChanges 2 = .ok (.lconst 1, 1) := by decide +kernel
theorem dX7_randomChanges_3 : decode cX7_randomChanges 3 = .ok (.ldc2_w 219, 3) := by decide +kernel
theorem dX7_randomChanges_6 : decode cX7_randomChanges 6 = .ok (.invokestatic 60, 3) := by decide +kernel
theorem dX7_randomChanges_9 : decode cX7_randomChanges 9 = .ok (.ifCond .ne 6, 3) := by decide +kernel
theorem dX7_randomChanges_12 : decode cX7_randomChanges 12 = .ok (.bipush (-2), 2) := by decide +kernel
theorem dX7_randomChanges_14 : decode cX7_randomChanges 14 = .ok (.ireturn, 1) := by decide +kernel
theorem dX7_randomChanges_15 : decode cX7_randomChanges 15 = .ok (.aload_n 0, 1) := by decide +kernel
theorem dX7_randomChanges_16 : decode cX7_randomChanges 16 = .ok (.getfield 13, 3) := by decide +kernel
theorem dX7_randomChanges_19 : decode cX7_randomChanges 19 = .ok (.aload_n 0, 1) := by decide +kernel
theorem dX7_randomChanges_20 : decode cX7_randomChanges 20 = .ok (.getfield 16, 3) := by decide +kernel
theorem dX7_randomChanges_23 : decode cX7_randomChanges 23 = .ok (.invokestatic 117, 3) := by decide +kernel
theorem dX7_randomChanges_26 : decode cX7_randomChanges 26 = .ok (.lload_n 1, 1) := by decide +kernel
theorem dX7_randomChanges_27 : decode cX7_randomChanges 27 = .ok (.lstore 4, 2) := by decide +kernel
theorem dX7_randomChanges_29 : decode cX7_randomChanges 29 = .ok (.iconst 0, 1) := by decide +kernel
theorem dX7_randomChanges_30 : decode cX7_randomChanges 30 = .ok (.istore 6, 2) := by decide +kernel
theorem dX7_randomChanges_32 : decode cX7_randomChanges 32 = .ok (.iconst 0, 1) := by decide +kernel
theorem dX7_randomChanges_33 : decode cX7_randomChanges 33 = .ok (.istore 7, 2) := by decide +kernel
theorem dX7_randomChanges_35 : decode cX7_randomChanges 35 = .ok (.iload 7, 2) := by decide +kernel
theorem dX7_randomChanges_37 : decode cX7_randomChanges 37 = .ok (.iload_n 3, 1) := by decide +kernel
theorem dX7_randomChanges_38 : decode cX7_randomChanges 38 = .ok (.if_icmp .ge 147, 3) := by decide +kernel
theorem dX7_randomChanges_41 : decode cX7_randomChanges 41 = .ok (.lload 4, 2) := by decide +kernel
theorem dX7_randomChanges_43 : decode cX7_randomChanges 43 = .ok (.ldc2_w 221, 3) := by decide +kernel
theorem dX7_randomChanges_46 : decode cX7_randomChanges 46 = .ok (.lmul, 1) := by decide +kernel
theorem dX7_randomChanges_47 : decode cX7_randomChanges 47 = .ok (.ldc2_w 223, 3) := by decide +kernel
theorem dX7_randomChanges_50 : decode cX7_randomChanges 50 = .ok (.ladd, 1) := by decide +kernel
theorem dX7_randomChanges_51 : decode cX7_randomChanges 51 = .ok (.lstore 4, 2) := by decide +kernel
theorem dX7_randomChanges_53 : decode cX7_randomChanges 53 = .ok (.lload 4, 2) := by decide +kernel
theorem dX7_randomChanges_55 : decode cX7_randomChanges 55 = .ok (.bipush 33, 2) := by decide +kernel
theorem dX7_randomChanges_57 : decode cX7_randomChanges 57 = .ok (.lushr, 1) := by decide +kernel
theorem dX7_randomChanges_58 : decode cX7_randomChanges 58 = .ok (.l2i, 1) := by decide +kernel
theorem dX7_randomChanges_59 : decode cX7_randomChanges 59 = .ok (.istore 8, 2) := by decide +kernel
theorem dX7_randomChanges_61 : decode cX7_randomChanges 61 = .ok (.iload 8, 2) := by decide +kernel
theorem dX7_randomChanges_63 : decode cX7_randomChanges 63 = .ok (.aload_n 0, 1) := by decide +kernel
theorem dX7_randomChanges_64 : decode cX7_randomChanges 64 = .ok (.getfield 56, 3) := by decide +kernel
theorem dX7_randomChanges_67 : decode cX7_randomChanges 67 = .ok (.irem, 1) := by decide +kernel
theorem dX7_randomChanges_68 : decode cX7_randomChanges 68 = .ok (.istore 9, 2) := by decide +kernel
theorem dX7_randomChanges_70 : decode cX7_randomChanges 70 = .ok (.iload 8, 2) := by decide +kernel
theorem dX7_randomChanges_72 : decode cX7_randomChanges 72 = .ok (.bipush 16, 2) := by decide +kernel
theorem dX7_randomChanges_74 : decode cX7_randomChanges 74 = .ok (.idiv, 1) := by decide +kernel
theorem dX7_randomChanges_75 : decode cX7_randomChanges 75 = .ok (.aload_n 0, 1) := by decide +kernel
theorem dX7_randomChanges_76 : decode cX7_randomChanges 76 = .ok (.getfield 56, 3) := by decide +kernel
theorem dX7_randomChanges_79 : decode cX7_randomChanges 79 = .ok (.irem, 1) := by decide +kernel
theorem dX7_randomChanges_80 : decode cX7_randomChanges 80 = .ok (.istore 10, 2) := by decide +kernel
theorem dX7_randomChanges_82 : decode cX7_randomChanges 82 = .ok (.iload 8, 2) := by decide +kernel
theorem dX7_randomChanges_84 : decode cX7_randomChanges 84 = .ok (.sipush 256, 3) := by decide +kernel
theorem dX7_randomChanges_87 : decode cX7_randomChanges 87 = .ok (.idiv, 1) := by decide +kernel
theorem dX7_randomChanges_88 : decode cX7_randomChanges 88 = .ok (.bipush 99, 2) := by decide +kernel
theorem dX7_randomChanges_90 : decode cX7_randomChanges 90 = .ok (.irem, 1) := by decide +kernel
theorem dX7_randomChanges_91 : decode cX7_randomChanges 91 = .ok (.iconst 1, 1) := by decide +kernel
theorem dX7_randomChanges_92 : decode cX7_randomChanges 92 = .ok (.iadd, 1) := by decide +kernel
theorem dX7_randomChanges_93 : decode cX7_randomChanges 93 = .ok (.istore 11, 2) := by decide +kernel
theorem dX7_randomChanges_95 : decode cX7_randomChanges 95 = .ok (.aload_n 0, 1) := by decide +kernel
theorem dX7_randomChanges_96 : decode cX7_randomChanges 96 = .ok (.getfield 16, 3) := by decide +kernel
theorem dX7_randomChanges_99 : decode cX7_randomChanges 99 = .ok (.iload 9, 2) := by decide +kernel
theorem dX7_randomChanges_101 : decode cX7_randomChanges 101 = .ok (.iload 10, 2) := by decide +kernel
theorem dX7_randomChanges_103 : decode cX7_randomChanges 103 = .ok (.invokestatic 64, 3) := by decide +kernel
theorem dX7_randomChanges_106 : decode cX7_randomChanges 106 = .ok (.iaload, 1) := by decide +kernel
theorem dX7_randomChanges_107 : decode cX7_randomChanges 107 = .ok (.ifCond .le 30, 3) := by decide +kernel
theorem dX7_randomChanges_110 : decode cX7_randomChanges 110 = .ok (.aload_n 0, 1) := by decide +kernel
theorem dX7_randomChanges_111 : decode cX7_randomChanges 111 = .ok (.getfield 16, 3) := by decide +kernel
theorem dX7_randomChanges_114 : decode cX7_randomChanges 114 = .ok (.iload 9, 2) := by decide +kernel
theorem dX7_randomChanges_116 : decode cX7_randomChanges 116 = .ok (.iload 10, 2) := by decide +kernel
theorem dX7_randomChanges_118 : decode cX7_randomChanges 118 = .ok (.iload 11, 2) := by decide +kernel
theorem dX7_randomChanges_120 : decode cX7_randomChanges 120 = .ok (.iconst 2, 1) := by decide +kernel
theorem dX7_randomChanges_121 : decode cX7_randomChanges 121 = .ok (.irem, 1) := by decide +kernel
theorem dX7_randomChanges_122 : decode cX7_randomChanges 122 = .ok (.ifCond .ne 7, 3) := by decide +kernel
theorem dX7_randomChanges_125 : decode cX7_randomChanges 125 = .ok (.iconst 0, 1) := by decide +kernel
theorem dX7_randomChanges_126 : decode cX7_randomChanges 126 = .ok (.goto 5, 3) := by decide +kernel
theorem dX7_randomChanges_129 : decode cX7_randomChanges 129 = .ok (.iload 11, 2) := by decide +kernel
theorem dX7_randomChanges_131 : decode cX7_randomChanges 131 = .ok (.invokestatic 105, 3) := by decide +kernel
theorem dX7_randomChanges_134 : decode cX7_randomChanges 134 = .ok (.goto 31, 3) := by decide +kernel
theorem dX7_randomChanges_137 : decode cX7_randomChanges 137 = .ok (.aload_n 0, 1) := by decide +kernel
theorem dX7_randomChanges_138 : decode cX7_randomChanges 138 = .ok (.aload_n 0, 1) := by decide +kernel
theorem dX7_randomChanges_139 : decode cX7_randomChanges 139 = .ok (.getfield 16, 3) := by decide +kernel
theorem dX7_randomChanges_142 : decode cX7_randomChanges 142 = .ok (.iload 9, 2) := by decide +kernel
theorem dX7_randomChanges_144 : decode cX7_randomChanges 144 = .ok (.iload 10, 2) := by decide +kernel
theorem dX7_randomChanges_146 : decode cX7_randomChanges 146 = .ok (.invokevirtual 98, 3) := by decide +kernel
theorem dX7_randomChanges_149 : decode cX7_randomChanges 149 = .ok (.ifCond .ne 16, 3) := by decide +kernel
theorem dX7_randomChanges_152 : decode cX7_randomChanges 152 = .ok (.aload_n 0, 1) := by decide +kernel
theorem dX7_randomChanges_153 : decode cX7_randomChanges 153 = .ok (.getfield 16, 3) := by decide +kernel
theorem dX7_randomChanges_156 : decode cX7_randomChanges 156 = .ok (.iload 9, 2) := by decide +kernel
theorem dX7_randomChanges_158 : decode cX7_randomChanges 158 = .ok (.iload 10, 2) := by decide +kernel
theorem dX7_randomChanges_160 : decode cX7_randomChanges 160 = .ok (.iload 11, 2) := by decide +kernel
theorem dX7_randomChanges_162 : decode cX7_randomChanges 162 = .ok (.invokestatic 105, 3) := by decide +kernel
theorem dX7_randomChanges_165 : decode cX7_randomChanges 165 = .ok (.iload 6, 2) := by decide +kernel
theorem dX7_randomChanges_167 : decode cX7_randomChanges 167 = .ok (.aload_n 0, 1) := by decide +kernel
theorem dX7_randomChanges_168 : decode cX7_randomChanges 168 = .ok (.aload_n 0, 1) := by decide +kernel
theorem dX7_randomChanges_169 : decode cX7_randomChanges 169 = .ok (.getfield 16, 3) := by decide +kernel
theorem dX7_randomChanges_172 : decode cX7_randomChanges 172 = .ok (.iconst 0, 1) := by decide +kernel
theorem dX7_randomChanges_173 : decode cX7_randomChanges 173 = .ok (.invokevirtual 147, 3) := by decide +kernel
theorem dX7_randomChanges_176 : decode cX7_randomChanges 176 = .ok (.iadd, 1) := by decide +kernel
theorem dX7_randomChanges_177 : decode cX7_randomChanges 177 = .ok (.istore 6, 2) := by decide +kernel
theorem dX7_randomChanges_179 : decode cX7_randomChanges 179 = .ok (.iinc 7 1, 3) := by decide +kernel
theorem dX7_randomChanges_182 : decode cX7_randomChanges 182 = .ok (.goto (-147), 3) := by decide +kernel
theorem dX7_randomChanges_185 : decode cX7_randomChanges 185 = .ok (.iload 6, 2) := by decide +kernel
theorem dX7_randomChanges_187 : decode cX7_randomChanges 187 = .ok (.ireturn, 1) := by decide +kernel
theorem dX7_save_0 : decode cX7_save 0 = .ok (.iload_n 1, 1) := by decide +kernel
theorem dX7_save_1 : decode cX7_save 1 = .ok (.i2l, 1) := by decide +kernel
theorem dX7_save_2 : decode cX7_save 2 = .ok (.lconst 0, 1) := by decide +kernel
theorem dX7_save_3 : decode cX7_save 3 = .ok (.lconst 1, 1) := by decide +kernel
theorem dX7_save_4 : decode cX7_save 4 = .ok (.invokestatic 60, 3) := by decide +kernel
theorem dX7_save_7 : decode cX7_save 7 = .ok (.ifCond .ne 5, 3) := by decide +kernel
theorem dX7_save_10 : decode cX7_save 10 = .ok (.iconst (-1), 1) := by decide +kernel
theorem dX7_save_11 : decode cX7_save 11 = .ok (.ireturn, 1) := by decide +kernel
theorem dX7_save_12 : decode cX7_save 12 = .ok (.aload_n 0, 1) := by decide +kernel
theorem dX7_save_13 : decode cX7_save 13 = .ok (.getfield 28, 3) := by decide +kernel
theorem dX7_save_16 : decode cX7_save 16 = .ok (.iload_n 1, 1) := by decide +kernel
theorem dX7_save_17 : decode cX7_save 17 = .ok (.iconst 1, 1) := by decide +kernel
theorem dX7_save_18 : decode cX7_save 18 = .ok (.bastore, 1) := by decide +kernel
theorem dX7_save_19 : decode cX7_save 19 = .ok (.iconst 0, 1) := by decide +kernel
theorem dX7_save_20 : decode cX7_save 20 = .ok (.istore_n 2, 1) := by decide +kernel
theorem dX7_save_21 : decode cX7_save 21 = .ok (.iload_n 2, 1) := by decide +kernel
theorem dX7_save_22 : decode cX7_save 22 = .ok (.sipush 156, 3) := by decide +kernel
theorem dX7_save_25 : decode cX7_save 25 = .ok (.if_icmp .ge 27, 3) := by decide +kernel
theorem dX7_save_28 : decode cX7_save 28 = .ok (.aload_n 0, 1) := by decide +kernel
theorem dX7_save_29 : decode cX7_save 29 = .ok (.getfield 25, 3) := by decide +kernel
theorem dX7_save_32 : decode cX7_save 32 = .ok (.sipush 156, 3) := by decide +kernel
theorem dX7_save_35 : decode cX7_save 35 = .ok (.iload_n 1, 1) := by decide +kernel
theorem dX7_save_36 : decode cX7_save 36 = .ok (.imul, 1) := by decide +kernel
theorem dX7_save_37 : decode cX7_save 37 = .ok (.iload_n 2, 1) := by decide +kernel
theorem dX7_save_38 : decode cX7_save 38 = .ok (.iadd, 1) := by decide +kernel
theorem dX7_save_39 : decode cX7_save 39 = .ok (.aload_n 0, 1) := by decide +kernel
theorem dX7_save_40 : decode cX7_save 40 = .ok (.getfield 13, 3) := by decide +kernel
theorem dX7_save_43 : decode cX7_save 43 = .ok (.iload_n 2, 1) := by decide +kernel
theorem dX7_save_44 : decode cX7_save 44 = .ok (.iaload, 1) := by decide +kernel
theorem dX7_save_45 : decode cX7_save 45 = .ok (.iastore, 1) := by decide +kernel
theorem dX7_save_46 : decode cX7_save 46 = .ok (.iinc 2 1, 3) := by decide +kernel
theorem dX7_save_49 : decode cX7_save 49 = .ok (.goto (-28), 3) := by decide +kernel
theorem dX7_save_52 : decode cX7_save 52 = .ok (.aload_n 0, 1) := by decide +kernel
theorem dX7_save_53 : decode cX7_save 53 = .ok (.getfield 13, 3) := by decide +kernel
theorem dX7_save_56 : decode cX7_save 56 = .ok (.invokestatic 124, 3) := by decide +kernel
theorem dX7_save_59 : decode cX7_save 59 = .ok (.ireturn, 1) := by decide +kernel
theorem dX7_restore_0 : decode cX7_restore 0 = .ok (.iload_n 1, 1) := by decide +kernel
theorem dX7_restore_1 : decode cX7_restore 1 = .ok (.i2l, 1) := by decide +kernel
theorem dX7_restore_2 : decode cX7_restore 2 = .ok (.lconst 0, 1) := by decide +kernel
theorem dX7_restore_3 : decode cX7_restore 3 = .ok (.lconst 1, 1) := by decide +kernel
theorem dX7_restore_4 : decode cX7_restore 4 = .ok (.invokestatic 60, 3) := by decide +kernel
theorem dX7_restore_7 : decode cX7_restore 7 = .ok (.ifCond .ne 5, 3) := by decide +kernel
theorem dX7_restore_10 : decode cX7_restore 10 = .ok (.iconst (-1), 1) := by decide +kernel
theorem dX7_restore_11 : decode cX7_restore 11 = .ok (.ireturn, 1) := by decide +kernel
theorem dX7_restore_12 : decode cX7_restore 12 = .ok (.aload_n 0, 1) := by decide +kernel
theorem dX7_restore_13 : decode cX7_restore 13 = .ok (.getfield 28, 3) := by decide +kernel
theorem dX7_restore_16 : decode cX7_restore 16 = .ok (.iload_n 1, 1) := by decide +kernel
theorem dX7_restore_17 : decode cX7_restore 17 = .ok (.baload, 1) := by decide +kernel
theorem dX7_restore_18 : decode cX7_restore 18 = .ok (.ifCond .ne 6, 3) := by decide +kernel
theorem dX7_restore_21 : decode cX7_restore 21 = .ok (.bipush (-3), 2) := by decide +kernel
theorem dX7_restore_23 : decode cX7_restore 23 = .ok (.ireturn, 1) := by decide +kernel
theorem dX7_restore_24 : decode cX7_restore 24 = .ok (.iconst 0, 1) := by decide +kernel
theorem dX7_restore_25 : decode cX7_restore 25 = .ok (.istore_n 2, 1) := by decide +kernel
theorem dX7_restore_26 : decode cX7_restore 26 = .ok (.iload_n 2, 1) := by decide +kernel
theorem dX7_restore_27 : decode cX7_restore 27 = .ok (.sipush 156, 3) := by decide +kernel
theorem dX7_restore_30 : decode cX7_restore 30 = .ok (.if_icmp .ge 27, 3) := by decide +kernel
theorem dX7_restore_33 : decode cX7_restore 33 = .ok (.aload_n 0, 1) := by decide +kernel
theorem dX7_restore_34 : decode cX7_restore 34 = .ok (.getfield 13, 3) := by decide +kernel
theorem dX7_restore_37 : decode cX7_restore 37 = .ok (.iload_n 2, 1) := by decide +kernel
theorem dX7_restore_38 : decode cX7_restore 38 = .ok (.aload_n 0, 1) := by decide +kernel
theorem dX7_restore_39 : decode cX7_restore 39 = .ok (.getfield 25, 3) := by decide +kernel
theorem dX7_restore_42 : decode cX7_restore 42 = .ok (.sipush 156, 3) := by decide +kernel
theorem dX7_restore_45 : decode cX7_restore 45 = .ok (.iload_n 1, 1) := by decide +kernel
theorem dX7_restore_46 : decode cX7_restore 46 = .ok (.imul, 1) := by decide +kernel
theorem dX7_restore_47 : decode cX7_restore 47 = .ok (.iload_n 2, 1) := by decide +kernel
theorem dX7_restore_48 : decode cX7_restore 48 = .ok (.iadd, 1) := by decide +kernel
theorem dX7_restore_49 : decode cX7_restore 49 = .ok (.iaload, 1) := by decide +kernel
theorem dX7_restore_50 : decode cX7_restore 50 = .ok (.iastore, 1) := by decide +kernel
theorem dX7_restore_51 : decode cX7_restore 51 = .ok (.iinc 2 1, 3) := by decide +kernel
theorem dX7_restore_54 : decode cX7_restore 54 = .ok (.goto (-28), 3) := by decide +kernel
theorem dX7_restore_57 : decode cX7_restore 57 = .ok (.aload_n 0, 1) := by decide +kernel
theorem dX7_restore_58 : decode cX7_restore 58 = .ok (.iconst 0, 1) := by decide +kernel
theorem dX7_restore_59 : decode cX7_restore 59 = .ok (.putfield 121, 3) := by decide +kernel
theorem dX7_restore_62 : decode cX7_restore 62 = .ok (.aload_n 0, 1) := by decide +kernel
theorem dX7_restore_63 : decode cX7_restore 63 = .ok (.getfield 13, 3) := by decide +kernel
theorem dX7_restore_66 : decode cX7_restore 66 = .ok (.invokestatic 124, 3) := by decide +kernel
theorem dX7_restore_69 : decode cX7_restore 69 = .ok (.ireturn, 1) := by decide +kernel
end
section
theorem dL_law_0 : decode cL_law 0 = .ok (.new 7, 3) := by decide +kernel
theorem dL_law_3 : decode cL_law 3 = .ok (.dup, 1) := by decide +kernel
theorem dL_law_4 : decode cL_law 4 = .ok (.invokespecial 9, 3) := by decide +kernel
theorem dL_law_7 : decode cL_law 7 = .ok (.astore_n 1, 1) := by decide +kernel
theorem dL_law_8 : decode cL_law 8 = .ok (.new 10, 3) := by decide +kernel
theorem dL_law_11 : decode cL_law 11 = .ok (.dup, 1) := by decide +kernel
theorem dL_law_12 : decode cL_law 12 = .ok (.invokespecial 12, 3) := by decide +kernel
theorem dL_law_15 : decode cL_law 15 = .ok (.astore_n 2, 1) := by decide +kernel
theorem dL_law_16 : decode cL_law 16 = .ok (.iconst 0, 1) := by decide +kernel
theorem dL_law_17 : decode cL_law 17 = .ok (.istore_n 3, 1) := by decide +kernel
theorem dL_law_18 : decode cL_law 18 = .ok (.iload_n 3, 1) := by decide +kernel
theorem dL_law_19 : decode cL_law 19 = .ok (.aload_n 0, 1) := by decide +kernel
theorem dL_law_20 : decode cL_law 20 = .ok (.arraylength, 1) := by decide +kernel
theorem dL_law_21 : decode cL_law 21 = .ok (.iconst 4, 1) := by decide +kernel
theorem dL_law_22 : decode cL_law 22 = .ok (.isub, 1) := by decide +kernel
theorem dL_law_23 : decode cL_law 23 = .ok (.if_icmp .gt 1106, 3) := by decide +kernel
theorem dL_law_26 : decode cL_law 26 = .ok (.aload_n 0, 1) := by decide +kernel
theorem dL_law_27 : decode cL_law 27 = .ok (.iload_n 3, 1) := by decide +kernel
theorem dL_law_28 : decode cL_law 28 = .ok (.iaload, 1) := by decide +kernel
theorem dL_law_29 : decode cL_law 29 = .ok (.bipush 31, 2) := by decide +kernel
theorem dL_law_31 : decode cL_law 31 = .ok (.iand, 1) := by decide +kernel
theorem dL_law_32 : decode cL_law 32 = .ok (.tableswitch 1091 0 31 #[144, 167, 180, 193, 206, 229, 262, 285, 328, 361, 404, 437, 450, 483, 526, 549, 572, 605, 628, 651, 674, 717, 740, 763, 786, 809, 843, 886, 919, 982, 1045, 1068], 144) := by decide +kernel
theorem dL_law_176 : decode cL_law 176 = .ok (.aload_n 1, 1) := by decide +kernel
theorem dL_law_177 : decode cL_law 177 = .ok (.aload_n 0, 1) := by decide +kernel
theorem dL_law_178 : decode cL_law 178 = .ok (.iload_n 3, 1) := by decide +kernel
theorem dL_law_179 : decode cL_law 179 = .ok (.iconst 1, 1) := by decide +kernel
theorem dL_law_180 : decode cL_law 180 = .ok (.iadd, 1) := by decide +kernel
theorem dL_law_181 : decode cL_law 181 = .ok (.iaload, 1) := by decide +kernel
theorem dL_law_182 : decode cL_law 182 = .ok (.invokevirtual 13, 3) := by decide +kernel
theorem dL_law_185 : decode cL_law 185 = .ok (.aload_n 2, 1) := by decide +kernel
theorem dL_law_186 : decode cL_law 186 = .ok (.aload_n 0, 1) := by decide +kernel
theorem dL_law_187 : decode cL_law 187 = .ok (.iload_n 3, 1) := by decide +kernel
theorem dL_law_188 : decode cL_law 188 = .ok (.iconst 1, 1) := by decide +kernel
theorem dL_law_189 : decode cL_law 189 = .ok (.iadd, 1) := by decide +kernel
theorem dL_law_190 : decode cL_law 190 = .ok (.iaload, 1) := by decide +kernel
theorem dL_law_191 : decode cL_law 191 = .ok (.invokevirtual 17, 3) := by decide +kernel
theorem dL_law_194 : decode cL_law 194 = .ok (.if_icmp .eq 929, 3) := by decide +kernel
theorem dL_law_197 : decode cL_law 197 = .ok (.iconst 0, 1) := by decide +kernel
theorem dL_law_198 : decode cL_law 198 = .ok (.ireturn, 1) := by decide +kernel
theorem dL_law_199 : decode cL_law 199 = .ok (.aload_n 1, 1) := by decide +kernel
theorem dL_law_200 : decode cL_law 200 = .ok (.invokevirtual 18, 3) := by decide +kernel
theorem dL_law_203 : decode cL_law 203 = .ok (.aload_n 2, 1) := by decide +kernel
theorem dL_law_204 : decode cL_law 204 = .ok (.invokevirtual 22, 3) := by decide +kernel
theorem dL_law_207 : decode cL_law 207 = .ok (.if_icmp .eq 916, 3) := by decide +kernel
theorem dL_law_210 : decode cL_law 210 = .ok (.iconst 0, 1) := by decide +kernel
theorem dL_law_211 : decode cL_law 211 = .ok (.ireturn, 1) := by decide +kernel
theorem dL_law_212 : decode cL_law 212 = .ok (.aload_n 1, 1) := by decide +kernel
theorem dL_law_213 : decode cL_law 213 = .ok (.invokevirtual 23, 3) := by decide +kernel
theorem dL_law_216 : decode cL_law 216 = .ok (.aload_n 2, 1) := by decide +kernel
theorem dL_law_217 : decode cL_law 217 = .ok (.invokevirtual 26, 3) := by decide +kernel
theorem dL_law_220 : decode cL_law 220 = .ok (.if_icmp .eq 903, 3) := by decide +kernel
theorem dL_law_223 : decode cL_law 223 = .ok (.iconst 0, 1) := by decide +kernel
theorem dL_law_224 : decode cL_law 224 = .ok (.ireturn, 1) := by decide +kernel
theorem dL_law_225 : decode cL_law 225 = .ok (.aload_n 1, 1) := by decide +kernel
theorem dL_law_226 : decode cL_law 226 = .ok (.invokevirtual 27, 3) := by decide +kernel
theorem dL_law_229 : decode cL_law 229 = .ok (.aload_n 2, 1) := by decide +kernel
theorem dL_law_230 : decode cL_law 230 = .ok (.invokevirtual 30, 3) := by decide +kernel
theorem dL_law_233 : decode cL_law 233 = .ok (.if_icmp .eq 890, 3) := by decide +kernel
theorem dL_law_236 : decode cL_law 236 = .ok (.iconst 0, 1) := by decide +kernel
theorem dL_law_237 : decode cL_law 237 = .ok (.ireturn, 1) := by decide +kernel
theorem dL_law_238 : decode cL_law 238 = .ok (.aload_n 1, 1) := by decide +kernel
theorem dL_law_239 : decode cL_law 239 = .ok (.aload_n 0, 1) := by decide +kernel
theorem dL_law_240 : decode cL_law 240 = .ok (.iload_n 3, 1) := by decide +kernel
theorem dL_law_241 : decode cL_law 241 = .ok (.iconst 1, 1) := by decide +kernel
theorem dL_law_242 : decode cL_law 242 = .ok (.iadd, 1) := by decide +kernel
theorem dL_law_243 : decode cL_law 243 = .ok (.iaload, 1) := by decide +kernel
theorem dL_law_244 : decode cL_law 244 = .ok (.invokevirtual 31, 3) := by decide +kernel
theorem dL_law_247 : decode cL_law 247 = .ok (.aload_n 2, 1) := by decide +kernel
theorem dL_law_248 : decode cL_law 248 = .ok (.aload_n 0, 1) := by decide +kernel
theorem dL_law_249 : decode cL_law 249 = .ok (.iload_n 3, 1) := by decide +kernel
theorem dL_law_250 : decode cL_law 250 = .ok (.iconst 1, 1) := by decide +kernel
theorem dL_law_251 : decode cL_law 251 = .ok (.iadd, 1) := by decide +kernel
theorem dL_law_252 : decode cL_law 252 = .ok (.iaload, 1) := by decide +kernel
theorem dL_law_253 : decode cL_law 253 = .ok (.invokevirtual 34, 3) := by decide +kernel
theorem dL_law_256 : decode cL_law 256 = .ok (.if_icmp .eq 867, 3) := by decide +kernel
theorem dL_law_259 : decode cL_law 259 = .ok (.iconst 0, 1) := by decide +kernel
theorem dL_law_260 : decode cL_law 260 = .ok (.ireturn, 1) := by decide +kernel
theorem dL_law_261 : decode cL_law 261 = .ok (.aload_n 1, 1) := by decide +kernel
theorem dL_law_262 : decode cL_law 262 = .ok (.aload_n 0, 1) := by decide +kernel
theorem dL_law_263 : decode cL_law 263 = .ok (.iload_n 3, 1) := by decide +kernel
theorem dL_law_264 : decode cL_law 264 = .ok (.iconst 1, 1) := by decide +kernel
theorem dL_law_265 : decode cL_law 265 = .ok (.iadd, 1) := by decide +kernel
theorem dL_law_266 : decode cL_law 266 = .ok (.iaload, 1) := by decide +kernel
theorem dL_law_267 : decode cL_law 267 = .ok (.aload_n 0, 1) := by decide +kernel
theorem dL_law_268 : decode cL_law 268 = .ok (.iload_n 3, 1) := by decide +kernel
theorem dL_law_269 : decode cL_law 269 = .ok (.iconst 2, 1) := by decide +kernel
theorem dL_law_270 : decode cL_law 270 = .ok (.iadd, 1) := by decide +kernel
theorem dL_law_271 : decode cL_law 271 = .ok (.iaload, 1) := by decide +kernel
theorem dL_law_272 : decode cL_law 272 = .ok (.invokevirtual 35, 3) := by decide +kernel
theorem dL_law_275 : decode cL_law 275 = .ok (.aload_n 2, 1) := by decide +kernel
theorem dL_law_276 : decode cL_law 276 = .ok (.aload_n 0, 1) := by decide +kernel
theorem dL_law_277 : decode cL_law 277 = .ok (.iload_n 3, 1) := by decide +kernel
theorem dL_law_278 : decode cL_law 278 = .ok (.iconst 1, 1) := by decide +kernel
theorem dL_law_279 : decode cL_law 279 = .ok (.iadd, 1) := by decide +kernel
theorem dL_law_280 : decode cL_law 280 = .ok (.iaload, 1) := by decide +kernel
theorem dL_law_281 : decode cL_law 281 = .ok (.aload_n 0, 1) := by decide +kernel
theorem dL_law_282 : decode cL_law 282 = .ok (.iload_n 3, 1) := by decide +kernel
theorem dL_law_283 : decode cL_law 283 = .ok (.iconst 2, 1) := by decide +kernel
theorem dL_law_284 : decode cL_law 284 = .ok (.iadd, 1) := by decide +kernel
theorem dL_law_285 : decode cL_law 285 = .ok (.iaload, 1) := by decide +kernel
theorem dL_law_286 : decode cL_law 286 = .ok (.invokevirtual 39, 3) := by decide +kernel
theorem dL_law_289 : decode cL_law 289 = .ok (.if_icmp .eq 834, 3) := by decide +kernel
theorem dL_law_292 : decode cL_law 292 = .ok (.iconst 0, 1) := by decide +kernel
theorem dL_law_293 : decode cL_law 293 = .ok (.ireturn, 1) := by decide +kernel
theorem dL_law_294 : decode cL_law 294 = .ok (.aload_n 1, 1) := by decide +kernel
theorem dL_law_295 : decode cL_law 295 = .ok (.aload_n 0, 1) := by decide +kernel
theorem dL_law_296 : decode cL_law 296 = .ok (.iload_n 3, 1) := by decide +kernel
theorem dL_law_297 : decode cL_law 297 = .ok (.iconst 1, 1) := by decide +kernel
theorem dL_law_298 : decode cL_law 298 = .ok (.iadd, 1) := by decide +kernel
theorem dL_law_299 : decode cL_law 299 = .ok (.iaload, 1) := by decide +kernel
theorem dL_law_300 : decode cL_law 300 = .ok (.invokevirtual 40, 3) := by decide +kernel
theorem dL_law_303 : decode cL_law 303 = .ok (.aload_n 2, 1) := by decide +kernel
theorem dL_law_304 : decode cL_law 304 = .ok (.aload_n 0, 1) := by decide +kernel
theorem dL_law_305 : decode cL_law 305 = .ok (.iload_n 3, 1) := by decide +kernel
theorem dL_law_306 : decode cL_law 306 = .ok (.iconst 1, 1) := by decide +kernel
theorem dL_law_307 : decode cL_law 307 = .ok (.iadd, 1) := by decide +kernel
theorem dL_law_308 : decode cL_law 308 = .ok (.iaload, 1) := by decide +kernel
theorem dL_law_309 : decode cL_law 309 = .ok (.invokevirtual 43, 3) := by decide +kernel
theorem dL_law_312 : decode cL_law 312 = .ok (.if_icmp .eq 811, 3) := by decide +kernel
theorem dL_law_315 : decode cL_law 315 = .ok (.iconst 0, 1) := by decide +kernel
theorem dL_law_316 : decode cL_law 316 = .ok (.ireturn, 1) := by decide +kernel
theorem dL_law_317 : decode cL_law 317 = .ok (.aload_n 1, 1) := by decide +kernel
theorem dL_law_318 : decode cL_law 318 = .ok (.aload_n 0, 1) := by decide +kernel
theorem dL_law_319 : decode cL_law 319 = .ok (.iload_n 3, 1) := by decide +kernel
theorem dL_law_320 : decode cL_law 320 = .ok (.iconst 1, 1) := by decide +kernel
theorem dL_law_321 : decode cL_law 321 = .ok (.iadd, 1) := by decide +kernel
theorem dL_law_322 : decode cL_law 322 = .ok (.iaload, 1) := by decide +kernel
theorem dL_law_323 : decode cL_law 323 = .ok (.aload_n 0, 1) := by decide +kernel
theorem dL_law_324 : decode cL_law 324 = .ok (.iload_n 3, 1) := by decide +kernel
theorem dL_law_325 : decode cL_law 325 = .ok (.iconst 2, 1) := by decide +kernel
theorem dL_law_326 : decode cL_law 326 = .ok (.iadd, 1) := by decide +kernel
theorem dL_law_327 : decode cL_law 327 = .ok (.iaload, 1) := by decide +kernel
theorem dL_law_328 : decode cL_law 328 = .ok (.aload_n 0, 1) := by decide +kernel
theorem dL_law_329 : decode cL_law 329 = .ok (.iload_n 3, 1) := by decide +kernel
theorem dL_law_330 : decode cL_law 330 = .ok (.iconst 3, 1) := by decide +kernel
theorem dL_law_331 : decode cL_law 331 = .ok (.iadd, 1) := by decide +kernel
theorem dL_law_332 : decode cL_law 332 = .ok (.iaload, 1) := by decide +kernel
theorem dL_law_333 : decode cL_law 333 = .ok (.invokevirtual 44, 3) := by decide +kernel
theorem dL_law_336 : decode cL_law 336 = .ok (.aload_n 2, 1) := by decide +kernel
theorem dL_law_337 : decode cL_law 337 = .ok (.aload_n 0, 1) := by decide +kernel
theorem dL_law_338 : decode cL_law 338 = .ok (.iload_n 3, 1) := by decide +kernel
theorem dL_law_339 : decode cL_law 339 = .ok (.iconst 1, 1) := by decide +kernel
theorem dL_law_340 : decode cL_law 340 = .ok (.iadd, 1) := by decide +kernel
theorem dL_law_341 : decode cL_law 341 = .ok (.iaload, 1) := by decide +kernel
theorem dL_law_342 : decode cL_law 342 = .ok (.aload_n 0, 1) := by decide +kernel
theorem dL_law_343 : decode cL_law 343 = .ok (.iload_n 3, 1) := by decide +kernel
theorem dL_law_344 : decode cL_law 344 = .ok (.iconst 2, 1) := by decide +kernel
theorem dL_law_345 : decode cL_law 345 = .ok (.iadd, 1) := by decide +kernel
theorem dL_law_346 : decode cL_law 346 = .ok (.iaload, 1) := by decide +kernel
theorem dL_law_347 : decode cL_law 347 = .ok (.aload_n 0, 1) := by decide +kernel
theorem dL_law_348 : decode cL_law 348 = .ok (.iload_n 3, 1) := by decide +kernel
theorem dL_law_349 : decode cL_law 349 = .ok (.iconst 3, 1) := by decide +kernel
theorem dL_law_350 : decode cL_law 350 = .ok (.iadd, 1) := by decide +kernel
theorem dL_law_351 : decode cL_law 351 = .ok (.iaload, 1) := by decide +kernel
theorem dL_law_352 : decode cL_law 352 = .ok (.invokevirtual 48, 3) := by decide +kernel
theorem dL_law_355 : decode cL_law 355 = .ok (.if_icmp .eq 768, 3) := by decide +kernel
theorem dL_law_358 : decode cL_law 358 = .ok (.iconst 0, 1) := by decide +kernel
theorem dL_law_359 : decode cL_law 359 = .ok (.ireturn, 1) := by decide +kernel
theorem dL_law_360 : decode cL_law 360 = .ok (.aload_n 1, 1) := by decide +kernel
theorem dL_law_361 : decode cL_law 361 = .ok (.aload_n 0, 1) := by decide +kernel
theorem dL_law_362 : decode cL_law 362 = .ok (.iload_n 3, 1) := by decide +kernel
theorem dL_law_363 : decode cL_law 363 = .ok (.iconst 1, 1) := by decide +kernel
theorem dL_law_364 : decode cL_law 364 = .ok (.iadd, 1) := by decide +kernel
theorem dL_law_365 : decode cL_law 365 = .ok (.iaload, 1) := by decide +kernel
theorem dL_law_366 : decode cL_law 366 = .ok (.aload_n 0, 1) := by decide +kernel
theorem dL_law_367 : decode cL_law 367 = .ok (.iload_n 3, 1) := by decide +kernel
theorem dL_law_368 : decode cL_law 368 = .ok (.iconst 2, 1) := by decide +kernel
theorem dL_law_369 : decode cL_law 369 = .ok (.iadd, 1) := by decide +kernel
theorem dL_law_370 : decode cL_law 370 = .ok (.iaload, 1) := by decide +kernel
theorem dL_law_371 : decode cL_law 371 = .ok (.invokevirtual 49, 3) := by decide +kernel
theorem dL_law_374 : decode cL_law 374 = .ok (.aload_n 2, 1) := by decide +kernel
theorem dL_law_375 : decode cL_law 375 = .ok (.aload_n 0, 1) := by decide +kernel
theorem dL_law_376 : decode cL_law 376 = .ok (.iload_n 3, 1) := by decide +kernel
theorem dL_law_377 : decode cL_law 377 = .ok (.iconst 1, 1) := by decide +kernel
theorem dL_law_378 : decode cL_law 378 = .ok (.iadd, 1) := by decide +kernel
theorem dL_law_379 : decode cL_law 379 = .ok (.iaload, 1) := by decide +kernel
theorem dL_law_380 : decode cL_law 380 = .ok (.aload_n 0, 1) := by decide +kernel
theorem dL_law_381 : decode cL_law 381 = .ok (.iload_n 3, 1) := by decide +kernel
theorem dL_law_382 : decode cL_law 382 = .ok (.iconst 2, 1) := by decide +kernel
theorem dL_law_383 : decode cL_law 383 = .ok (.iadd, 1) := by decide +kernel
theorem dL_law_384 : decode cL_law 384 = .ok (.iaload, 1) := by decide +kernel
theorem dL_law_385 : decode cL_law 385 = .ok (.invokevirtual 52, 3) := by decide +kernel
theorem dL_law_388 : decode cL_law 388 = .ok (.if_icmp .eq 735, 3) := by decide +kernel
theorem dL_law_391 : decode cL_law 391 = .ok (.iconst 0, 1) := by decide +kernel
theorem dL_law_392 : decode cL_law 392 = .ok (.ireturn, 1) := by decide +kernel
theorem dL_law_393 : decode cL_law 393 = .ok (.aload_n 1, 1) := by decide +kernel
theorem dL_law_394 : decode cL_law 394 = .ok (.aload_n 0, 1) := by decide +kernel
theorem dL_law_395 : decode cL_law 395 = .ok (.iload_n 3, 1) := by decide +kernel
theorem dL_law_396 : decode cL_law 396 = .ok (.iconst 1, 1) := by decide +kernel
theorem dL_law_397 : decode cL_law 397 = .ok (.iadd, 1) := by decide +kernel
theorem dL_law_398 : decode cL_law 398 = .ok (.iaload, 1) := by decide +kernel
theorem dL_law_399 : decode cL_law 399 = .ok (.aload_n 0, 1) := by decide +kernel
theorem dL_law_400 : decode cL_law 400 = .ok (.iload_n 3, 1) := by decide +kernel
theorem dL_law_401 : decode cL_law 401 = .ok (.iconst 2, 1) := by decide +kernel
theorem dL_law_402 : decode cL_law 402 = .ok (.iadd, 1) := by decide +kernel
theorem dL_law_403 : decode cL_law 403 = .ok (.iaload, 1) := by decide +kernel
theorem dL_law_404 : decode cL_law 404 = .ok (.aload_n 0, 1) := by decide +kernel
theorem dL_law_405 : decode cL_law 405 = .ok (.iload_n 3, 1) := by decide +kernel
theorem dL_law_406 : decode cL_law 406 = .ok (.iconst 3, 1) := by decide +kernel
theorem dL_law_407 : decode cL_law 407 = .ok (.iadd, 1) := by decide +kernel
theorem dL_law_408 : decode cL_law 408 = .ok (.iaload, 1) := by decide +kernel
theorem dL_law_409 : decode cL_law 409 = .ok (.invokevirtual 53, 3) := by decide +kernel
theorem dL_law_412 : decode cL_law 412 = .ok (.aload_n 2, 1) := by decide +kernel
theorem dL_law_413 : decode cL_law 413 = .ok (.aload_n 0, 1) := by decide +kernel
theorem dL_law_414 : decode cL_law 414 = .ok (.iload_n 3, 1) := by decide +kernel
theorem dL_law_415 : decode cL_law 415 = .ok (.iconst 1, 1) := by decide +kernel
theorem dL_law_416 : decode cL_law 416 = .ok (.iadd, 1) := by decide +kernel
theorem dL_law_417 : decode cL_law 417 = .ok (.iaload, 1) := by decide +kernel
theorem dL_law_418 : decode cL_law 418 = .ok (.aload_n 0, 1) := by decide +kernel
theorem dL_law_419 : decode cL_law 419 = .ok (.iload_n 3, 1) := by decide +kernel
theorem dL_law_420 : decode cL_law 420 = .ok (.iconst 2, 1) := by decide +kernel
theorem dL_law_421 : decode cL_law 421 = .ok (.iadd, 1) := by decide +kernel
theorem dL_law_422 : decode cL_law 422 = .ok (.iaload, 1) := by decide +kernel
theorem dL_law_423 : decode cL_law 423 = .ok (.aload_n 0, 1) := by decide +kernel
theorem dL_law_424 : decode cL_law 424 = .ok (.iload_n 3, 1) := by decide +kernel
theorem dL_law_425 : decode cL_law 425 = .ok (.iconst 3, 1) := by decide +kernel
theorem dL_law_426 : decode cL_law 426 = .ok (.iadd, 1) := by decide +kernel
theorem dL_law_427 : decode cL_law 427 = .ok (.iaload, 1) := by decide +kernel
theorem dL_law_428 : decode cL_law 428 = .ok (.invokevirtual 56, 3) := by decide +kernel
theorem dL_law_431 : decode cL_law 431 = .ok (.if_icmp .eq 692, 3) := by decide +kernel
theorem dL_law_434 : decode cL_law 434 = .ok (.iconst 0, 1) := by decide +kernel
theorem dL_law_435 : decode cL_law 435 = .ok (.ireturn, 1) := by decide +kernel
theorem dL_law_436 : decode cL_law 436 = .ok (.aload_n 1, 1) := by decide +kernel
theorem dL_law_437 : decode cL_law 437 = .ok (.aload_n 0, 1) := by decide +kernel
theorem dL_law_438 : decode cL_law 438 = .ok (.iload_n 3, 1) := by decide +kernel
theorem dL_law_439 : decode cL_law 439 = .ok (.iconst 1, 1) := by decide +kernel
theorem dL_law_440 : decode cL_law 440 = .ok (.iadd, 1) := by decide +kernel
theorem dL_law_441 : decode cL_law 441 = .ok (.iaload, 1) := by decide +kernel
theorem dL_law_442 : decode cL_law 442 = .ok (.aload_n 0, 1) := by decide +kernel
theorem dL_law_443 : decode cL_law 443 = .ok (.iload_n 3, 1) := by decide +kernel
theorem dL_law_444 : decode cL_law 444 = .ok (.iconst 2, 1) := by decide +kernel
theorem dL_law_445 : decode cL_law 445 = .ok (.iadd, 1) := by decide +kernel
theorem dL_law_446 : decode cL_law 446 = .ok (.iaload, 1) := by decide +kernel
theorem dL_law_447 : decode cL_law 447 = .ok (.invokevirtual 57, 3) := by decide +kernel
theorem dL_law_450 : decode cL_law 450 = .ok (.aload_n 2, 1) := by decide +kernel
theorem dL_law_451 : decode cL_law 451 = .ok (.aload_n 0, 1) := by decide +kernel
theorem dL_law_452 : decode cL_law 452 = .ok (.iload_n 3, 1) := by decide +kernel
theorem dL_law_453 : decode cL_law 453 = .ok (.iconst 1, 1) := by decide +kernel
theorem dL_law_454 : decode cL_law 454 = .ok (.iadd, 1) := by decide +kernel
theorem dL_law_455 : decode cL_law 455 = .ok (.iaload, 1) := by decide +kernel
theorem dL_law_456 : decode cL_law 456 = .ok (.aload_n 0, 1) := by decide +kernel
theorem dL_law_457 : decode cL_law 457 = .ok (.iload_n 3, 1) := by decide +kernel
theorem dL_law_458 : decode cL_law 458 = .ok (.iconst 2, 1) := by decide +kernel
theorem dL_law_459 : decode cL_law 459 = .ok (.iadd, 1) := by decide +kernel
theorem dL_law_460 : decode cL_law 460 = .ok (.iaload, 1) := by decide +kernel
theorem dL_law_461 : decode cL_law 461 = .ok (.invokevirtual 60, 3) := by decide +kernel
theorem dL_law_464 : decode cL_law 464 = .ok (.if_icmp .eq 659, 3) := by decide +kernel
theorem dL_law_467 : decode cL_law 467 = .ok (.iconst 0, 1) := by decide +kernel
theorem dL_law_468 : decode cL_law 468 = .ok (.ireturn, 1) := by decide +kernel
theorem dL_law_469 : decode cL_law 469 = .ok (.aload_n 1, 1) := by decide +kernel
theorem dL_law_470 : decode cL_law 470 = .ok (.invokevirtual 61, 3) := by decide +kernel
theorem dL_law_473 : decode cL_law 473 = .ok (.aload_n 2, 1) := by decide +kernel
theorem dL_law_474 : decode cL_law 474 = .ok (.invokevirtual 64, 3) := by decide +kernel
theorem dL_law_477 : decode cL_law 477 = .ok (.if_icmp .eq 646, 3) := by decide +kernel
theorem dL_law_480 : decode cL_law 480 = .ok (.iconst 0, 1) := by decide +kernel
theorem dL_law_481 : decode cL_law 481 = .ok (.ireturn, 1) := by decide +kernel
theorem dL_law_482 : decode cL_law 482 = .ok (.aload_n 1, 1) := by decide +kernel
theorem dL_law_483 : decode cL_law 483 = .ok (.aload_n 0, 1) := by decide +kernel
theorem dL_law_484 : decode cL_law 484 = .ok (.iload_n 3, 1) := by decide +kernel
theorem dL_law_485 : decode cL_law 485 = .ok (.iconst 1, 1) := by decide +kernel
theorem dL_law_486 : decode cL_law 486 = .ok (.iadd, 1) := by decide +kernel
theorem dL_law_487 : decode cL_law 487 = .ok (.iaload, 1) := by decide +kernel
theorem dL_law_488 : decode cL_law 488 = .ok (.aload_n 0, 1) := by decide +kernel
theorem dL_law_489 : decode cL_law 489 = .ok (.iload_n 3, 1) := by decide +kernel
theorem dL_law_490 : decode cL_law 490 = .ok (.iconst 2, 1) := by decide +kernel
theorem dL_law_491 : decode cL_law 491 = .ok (.iadd, 1) := by decide +kernel
theorem dL_law_492 : decode cL_law 492 = .ok (.iaload, 1) := by decide +kernel
theorem dL_law_493 : decode cL_law 493 = .ok (.invokevirtual 65, 3) := by decide +kernel
theorem dL_law_496 : decode cL_law 496 = .ok (.aload_n 2, 1) := by decide +kernel
theorem dL_law_497 : decode cL_law 497 = .ok (.aload_n 0, 1) := by decide +kernel
theorem dL_law_498 : decode cL_law 498 = .ok (.iload_n 3, 1) := by decide +kernel
theorem dL_law_499 : decode cL_law 499 = .ok (.iconst 1, 1) := by decide +kernel
theorem dL_law_500 : decode cL_law 500 = .ok (.iadd, 1) := by decide +kernel
theorem dL_law_501 : decode cL_law 501 = .ok (.iaload, 1) := by decide +kernel
theorem dL_law_502 : decode cL_law 502 = .ok (.aload_n 0, 1) := by decide +kernel
theorem dL_law_503 : decode cL_law 503 = .ok (.iload_n 3, 1) := by decide +kernel
theorem dL_law_504 : decode cL_law 504 = .ok (.iconst 2, 1) := by decide +kernel
theorem dL_law_505 : decode cL_law 505 = .ok (.iadd, 1) := by decide +kernel
theorem dL_law_506 : decode cL_law 506 = .ok (.iaload, 1) := by decide +kernel
theorem dL_law_507 : decode cL_law 507 = .ok (.invokevirtual 68, 3) := by decide +kernel
theorem dL_law_510 : decode cL_law 510 = .ok (.if_icmp .eq 613, 3) := by decide +kernel
theorem dL_law_513 : decode cL_law 513 = .ok (.iconst 0, 1) := by decide +kernel
theorem dL_law_514 : decode cL_law 514 = .ok (.ireturn, 1) := by decide +kernel
theorem dL_law_515 : decode cL_law 515 = .ok (.aload_n 1, 1) := by decide +kernel
theorem dL_law_516 : decode cL_law 516 = .ok (.aload_n 0, 1) := by decide +kernel
theorem dL_law_517 : decode cL_law 517 = .ok (.iload_n 3, 1) := by decide +kernel
theorem dL_law_518 : decode cL_law 518 = .ok (.iconst 1, 1) := by decide +kernel
theorem dL_law_519 : decode cL_law 519 = .ok (.iadd, 1) := by decide +kernel
theorem dL_law_520 : decode cL_law 520 = .ok (.iaload, 1) := by decide +kernel
theorem dL_law_521 : decode cL_law 521 = .ok (.aload_n 0, 1) := by decide +kernel
theorem dL_law_522 : decode cL_law 522 = .ok (.iload_n 3, 1) := by decide +kernel
theorem dL_law_523 : decode cL_law 523 = .ok (.iconst 2, 1) := by decide +kernel
theorem dL_law_524 : decode cL_law 524 = .ok (.iadd, 1) := by decide +kernel
theorem dL_law_525 : decode cL_law 525 = .ok (.iaload, 1) := by decide +kernel
theorem dL_law_526 : decode cL_law 526 = .ok (.aload_n 0, 1) := by decide +kernel
theorem dL_law_527 : decode cL_law 527 = .ok (.iload_n 3, 1) := by decide +kernel
theorem dL_law_528 : decode cL_law 528 = .ok (.iconst 3, 1) := by decide +kernel
theorem dL_law_529 : decode cL_law 529 = .ok (.iadd, 1) := by decide +kernel
theorem dL_law_530 : decode cL_law 530 = .ok (.iaload, 1) := by decide +kernel
theorem dL_law_531 : decode cL_law 531 = .ok (.invokevirtual 69, 3) := by decide +kernel
theorem dL_law_534 : decode cL_law 534 = .ok (.aload_n 2, 1) := by decide +kernel
theorem dL_law_535 : decode cL_law 535 = .ok (.aload_n 0, 1) := by decide +kernel
theorem dL_law_536 : decode cL_law 536 = .ok (.iload_n 3, 1) := by decide +kernel
theorem dL_law_537 : decode cL_law 537 = .ok (.iconst 1, 1) := by decide +kernel
theorem dL_law_538 : decode cL_law 538 = .ok (.iadd, 1) := by decide +kernel
theorem dL_law_539 : decode cL_law 539 = .ok (.iaload, 1) := by decide +kernel
theorem dL_law_540 : decode cL_law 540 = .ok (.aload_n 0, 1) := by decide +kernel
theorem dL_law_541 : decode cL_law 541 = .ok (.iload_n 3, 1) := by decide +kernel
theorem dL_law_542 : decode cL_law 542 = .ok (.iconst 2, 1) := by decide +kernel
theorem dL_law_543 : decode cL_law 543 = .ok (.iadd, 1) := by decide +kernel
theorem dL_law_544 : decode cL_law 544 = .ok (.iaload, 1) := by decide +kernel
theorem dL_law_545 : decode cL_law 545 = .ok (.aload_n 0, 1) := by decide +kernel
theorem dL_law_546 : decode cL_law 546 = .ok (.iload_n 3, 1) := by decide +kernel
theorem dL_law_547 : decode cL_law 547 = .ok (.iconst 3, 1) := by decide +kernel
theorem dL_law_548 : decode cL_law 548 = .ok (.iadd, 1) := by decide +kernel
theorem dL_law_549 : decode cL_law 549 = .ok (.iaload, 1) := by decide +kernel
theorem dL_law_550 : decode cL_law 550 = .ok (.invokevirtual 72, 3) := by decide +kernel
theorem dL_law_553 : decode cL_law 553 = .ok (.if_icmp .eq 570, 3) := by decide +kernel
theorem dL_law_556 : decode cL_law 556 = .ok (.iconst 0, 1) := by decide +kernel
theorem dL_law_557 : decode cL_law 557 = .ok (.ireturn, 1) := by decide +kernel
theorem dL_law_558 : decode cL_law 558 = .ok (.aload_n 1, 1) := by decide +kernel
theorem dL_law_559 : decode cL_law 559 = .ok (.aload_n 0, 1) := by decide +kernel
theorem dL_law_560 : decode cL_law 560 = .ok (.iload_n 3, 1) := by decide +kernel
theorem dL_law_561 : decode cL_law 561 = .ok (.iconst 1, 1) := by decide +kernel
theorem dL_law_562 : decode cL_law 562 = .ok (.iadd, 1) := by decide +kernel
theorem dL_law_563 : decode cL_law 563 = .ok (.iaload, 1) := by decide +kernel
theorem dL_law_564 : decode cL_law 564 = .ok (.invokevirtual 73, 3) := by decide +kernel
theorem dL_law_567 : decode cL_law 567 = .ok (.aload_n 2, 1) := by decide +kernel
theorem dL_law_568 : decode cL_law 568 = .ok (.aload_n 0, 1) := by decide +kernel
theorem dL_law_569 : decode cL_law 569 = .ok (.iload_n 3, 1) := by decide +kernel
theorem dL_law_570 : decode cL_law 570 = .ok (.iconst 1, 1) := by decide +kernel
theorem dL_law_571 : decode cL_law 571 = .ok (.iadd, 1) := by decide +kernel
theorem dL_law_572 : decode cL_law 572 = .ok (.iaload, 1) := by decide +kernel
theorem dL_law_573 : decode cL_law 573 = .ok (.invokevirtual 76, 3) := by decide +kernel
theorem dL_law_576 : decode cL_law 576 = .ok (.if_icmp .eq 547, 3) := by decide +kernel
theorem dL_law_579 : decode cL_law 579 = .ok (.iconst 0, 1) := by decide +kernel
theorem dL_law_580 : decode cL_law 580 = .ok (.ireturn, 1) := by decide +kernel
theorem dL_law_581 : decode cL_law 581 = .ok (.aload_n 1, 1) := by decide +kernel
theorem dL_law_582 : decode cL_law 582 = .ok (.aload_n 0, 1) := by decide +kernel
theorem dL_law_583 : decode cL_law 583 = .ok (.iload_n 3, 1) := by decide +kernel
theorem dL_law_584 : decode cL_law 584 = .ok (.iconst 1, 1) := by decide +kernel
theorem dL_law_585 : decode cL_law 585 = .ok (.iadd, 1) := by decide +kernel
theorem dL_law_586 : decode cL_law 586 = .ok (.iaload, 1) := by decide +kernel
theorem dL_law_587 : decode cL_law 587 = .ok (.invokevirtual 77, 3) := by decide +kernel
theorem dL_law_590 : decode cL_law 590 = .ok (.aload_n 2, 1) := by decide +kernel
theorem dL_law_591 : decode cL_law 591 = .ok (.aload_n 0, 1) := by decide +kernel
theorem dL_law_592 : decode cL_law 592 = .ok (.iload_n 3, 1) := by decide +kernel
theorem dL_law_593 : decode cL_law 593 = .ok (.iconst 1, 1) := by decide +kernel
theorem dL_law_594 : decode cL_law 594 = .ok (.iadd, 1) := by decide +kernel
theorem dL_law_595 : decode cL_law 595 = .ok (.iaload, 1) := by decide +kernel
theorem dL_law_596 : decode cL_law 596 = .ok (.invokevirtual 80, 3) := by decide +kernel
theorem dL_law_599 : decode cL_law 599 = .ok (.if_icmp .eq 524, 3) := by decide +kernel
theorem dL_law_602 : decode cL_law 602 = .ok (.iconst 0, 1) := by decide +kernel
theorem dL_law_603 : decode cL_law 603 = .ok (.ireturn, 1) := by decide +kernel
theorem dL_law_604 : decode cL_law 604 = .ok (.aload_n 1, 1) := by decide +kernel
theorem dL_law_605 : decode cL_law 605 = .ok (.aload_n 0, 1) := by decide +kernel
theorem dL_law_606 : decode cL_law 606 = .ok (.iload_n 3, 1) := by decide +kernel
theorem dL_law_607 : decode cL_law 607 = .ok (.iconst 1, 1) := by decide +kernel
theorem dL_law_608 : decode cL_law 608 = .ok (.iadd, 1) := by decide +kernel
theorem dL_law_609 : decode cL_law 609 = .ok (.iaload, 1) := by decide +kernel
theorem dL_law_610 : decode cL_law 610 = .ok (.aload_n 0, 1) := by decide +kernel
theorem dL_law_611 : decode cL_law 611 = .ok (.iload_n 3, 1) := by decide +kernel
theorem dL_law_612 : decode cL_law 612 = .ok (.iconst 2, 1) := by decide +kernel
theorem dL_law_613 : decode cL_law 613 = .ok (.iadd, 1) := by decide +kernel
theorem dL_law_614 : decode cL_law 614 = .ok (.iaload, 1) := by decide +kernel
theorem dL_law_615 : decode cL_law 615 = .ok (.invokevirtual 81, 3) := by decide +kernel
theorem dL_law_618 : decode cL_law 618 = .ok (.aload_n 2, 1) := by decide +kernel
theorem dL_law_619 : decode cL_law 619 = .ok (.aload_n 0, 1) := by decide +kernel
theorem dL_law_620 : decode cL_law 620 = .ok (.iload_n 3, 1) := by decide +kernel
theorem dL_law_621 : decode cL_law 621 = .ok (.iconst 1, 1) := by decide +kernel
theorem dL_law_622 : decode cL_law 622 = .ok (.iadd, 1) := by decide +kernel
theorem dL_law_623 : decode cL_law 623 = .ok (.iaload, 1) := by decide +kernel
theorem dL_law_624 : decode cL_law 624 = .ok (.aload_n 0, 1) := by decide +kernel
theorem dL_law_625 : decode cL_law 625 = .ok (.iload_n 3, 1) := by decide +kernel
theorem dL_law_626 : decode cL_law 626 = .ok (.iconst 2, 1) := by decide +kernel
theorem dL_law_627 : decode cL_law 627 = .ok (.iadd, 1) := by decide +kernel
theorem dL_law_628 : decode cL_law 628 = .ok (.iaload, 1) := by decide +kernel
theorem dL_law_629 : decode cL_law 629 = .ok (.invokevirtual 84, 3) := by decide +kernel
theorem dL_law_632 : decode cL_law 632 = .ok (.if_icmp .eq 491, 3) := by decide +kernel
theorem dL_law_635 : decode cL_law 635 = .ok (.iconst 0, 1) := by decide +kernel
theorem dL_law_636 : decode cL_law 636 = .ok (.ireturn, 1) := by decide +kernel
theorem dL_law_637 : decode cL_law 637 = .ok (.aload_n 1, 1) := by decide +kernel
theorem dL_law_638 : decode cL_law 638 = .ok (.aload_n 0, 1) := by decide +kernel
theorem dL_law_639 : decode cL_law 639 = .ok (.iload_n 3, 1) := by decide +kernel
theorem dL_law_640 : decode cL_law 640 = .ok (.iconst 1, 1) := by decide +kernel
theorem dL_law_641 : decode cL_law 641 = .ok (.iadd, 1) := by decide +kernel
theorem dL_law_642 : decode cL_law 642 = .ok (.iaload, 1) := by decide +kernel
theorem dL_law_643 : decode cL_law 643 = .ok (.invokevirtual 85, 3) := by decide +kernel
theorem dL_law_646 : decode cL_law 646 = .ok (.aload_n 2, 1) := by decide +kernel
theorem dL_law_647 : decode cL_law 647 = .ok (.aload_n 0, 1) := by decide +kernel
theorem dL_law_648 : decode cL_law 648 = .ok (.iload_n 3, 1) := by decide +kernel
theorem dL_law_649 : decode cL_law 649 = .ok (.iconst 1, 1) := by decide +kernel
theorem dL_law_650 : decode cL_law 650 = .ok (.iadd, 1) := by decide +kernel
theorem dL_law_651 : decode cL_law 651 = .ok (.iaload, 1) := by decide +kernel
theorem dL_law_652 : decode cL_law 652 = .ok (.invokevirtual 88, 3) := by decide +kernel
theorem dL_law_655 : decode cL_law 655 = .ok (.if_icmp .eq 468, 3) := by decide +kernel
theorem dL_law_658 : decode cL_law 658 = .ok (.iconst 0, 1) := by decide +kernel
theorem dL_law_659 : decode cL_law 659 = .ok (.ireturn, 1) := by decide +kernel
theorem dL_law_660 : decode cL_law 660 = .ok (.aload_n 1, 1) := by decide +kernel
theorem dL_law_661 : decode cL_law 661 = .ok (.aload_n 0, 1) := by decide +kernel
theorem dL_law_662 : decode cL_law 662 = .ok (.iload_n 3, 1) := by decide +kernel
theorem dL_law_663 : decode cL_law 663 = .ok (.iconst 1, 1) := by decide +kernel
theorem dL_law_664 : decode cL_law 664 = .ok (.iadd, 1) := by decide +kernel
theorem dL_law_665 : decode cL_law 665 = .ok (.iaload, 1) := by decide +kernel
theorem dL_law_666 : decode cL_law 666 = .ok (.invokevirtual 89, 3) := by decide +kernel
theorem dL_law_669 : decode cL_law 669 = .ok (.aload_n 2, 1) := by decide +kernel
theorem dL_law_670 : decode cL_law 670 = .ok (.aload_n 0, 1) := by decide +kernel
theorem dL_law_671 : decode cL_law 671 = .ok (.iload_n 3, 1) := by decide +kernel
theorem dL_law_672 : decode cL_law 672 = .ok (.iconst 1, 1) := by decide +kernel
theorem dL_law_673 : decode cL_law 673 = .ok (.iadd, 1) := by decide +kernel
theorem dL_law_674 : decode cL_law 674 = .ok (.iaload, 1) := by decide +kernel
theorem dL_law_675 : decode cL_law 675 = .ok (.invokevirtual 92, 3) := by decide +kernel
theorem dL_law_678 : decode cL_law 678 = .ok (.if_icmp .eq 445, 3) := by decide +kernel
theorem dL_law_681 : decode cL_law 681 = .ok (.iconst 0, 1) := by decide +kernel
theorem dL_law_682 : decode cL_law 682 = .ok (.ireturn, 1) := by decide +kernel
theorem dL_law_683 : decode cL_law 683 = .ok (.aload_n 1, 1) := by decide +kernel
theorem dL_law_684 : decode cL_law 684 = .ok (.aload_n 0, 1) := by decide +kernel
theorem dL_law_685 : decode cL_law 685 = .ok (.iload_n 3, 1) := by decide +kernel
theorem dL_law_686 : decode cL_law 686 = .ok (.iconst 1, 1) := by decide +kernel
theorem dL_law_687 : decode cL_law 687 = .ok (.iadd, 1) := by decide +kernel
theorem dL_law_688 : decode cL_law 688 = .ok (.iaload, 1) := by decide +kernel
theorem dL_law_689 : decode cL_law 689 = .ok (.invokevirtual 93, 3) := by decide +kernel
theorem dL_law_692 : decode cL_law 692 = .ok (.aload_n 2, 1) := by decide +kernel
theorem dL_law_693 : decode cL_law 693 = .ok (.aload_n 0, 1) := by decide +kernel
theorem dL_law_694 : decode cL_law 694 = .ok (.iload_n 3, 1) := by decide +kernel
theorem dL_law_695 : decode cL_law 695 = .ok (.iconst 1, 1) := by decide +kernel
theorem dL_law_696 : decode cL_law 696 = .ok (.iadd, 1) := by decide +kernel
theorem dL_law_697 : decode cL_law 697 = .ok (.iaload, 1) := by decide +kernel
theorem dL_law_698 : decode cL_law 698 = .ok (.invokevirtual 96, 3) := by decide +kernel
theorem dL_law_701 : decode cL_law 701 = .ok (.if_icmp .eq 422, 3) := by decide +kernel
theorem dL_law_704 : decode cL_law 704 = .ok (.iconst 0, 1) := by decide +kernel
theorem dL_law_705 : decode cL_law 705 = .ok (.ireturn, 1) := by decide +kernel
theorem dL_law_706 : decode cL_law 706 = .ok (.aload_n 1, 1) := by decide +kernel
theorem dL_law_707 : decode cL_law 707 = .ok (.aload_n 0, 1) := by decide +kernel
theorem dL_law_708 : decode cL_law 708 = .ok (.iload_n 3, 1) := by decide +kernel
theorem dL_law_709 : decode cL_law 709 = .ok (.iconst 1, 1) := by decide +kernel
theorem dL_law_710 : decode cL_law 710 = .ok (.iadd, 1) := by decide +kernel
theorem dL_law_711 : decode cL_law 711 = .ok (.iaload, 1) := by decide +kernel
theorem dL_law_712 : decode cL_law 712 = .ok (.aload_n 0, 1) := by decide +kernel
theorem dL_law_713 : decode cL_law 713 = .ok (.iload_n 3, 1) := by decide +kernel
theorem dL_law_714 : decode cL_law 714 = .ok (.iconst 2, 1) := by decide +kernel
theorem dL_law_715 : decode cL_law 715 = .ok (.iadd, 1) := by decide +kernel
theorem dL_law_716 : decode cL_law 716 = .ok (.iaload, 1) := by decide +kernel
theorem dL_law_717 : decode cL_law 717 = .ok (.aload_n 0, 1) := by decide +kernel
theorem dL_law_718 : decode cL_law 718 = .ok (.iload_n 3, 1) := by decide +kernel
theorem dL_law_719 : decode cL_law 719 = .ok (.iconst 3, 1) := by decide +kernel
theorem dL_law_720 : decode cL_law 720 = .ok (.iadd, 1) := by decide +kernel
theorem dL_law_721 : decode cL_law 721 = .ok (.iaload, 1) := by decide +kernel
theorem dL_law_722 : decode cL_law 722 = .ok (.invokevirtual 97, 3) := by decide +kernel
theorem dL_law_725 : decode cL_law 725 = .ok (.aload_n 2, 1) := by decide +kernel
theorem dL_law_726 : decode cL_law 726 = .ok (.aload_n 0, 1) := by decide +kernel
theorem dL_law_727 : decode cL_law 727 = .ok (.iload_n 3, 1) := by decide +kernel
theorem dL_law_728 : decode cL_law 728 = .ok (.iconst 1, 1) := by decide +kernel
theorem dL_law_729 : decode cL_law 729 = .ok (.iadd, 1) := by decide +kernel
theorem dL_law_730 : decode cL_law 730 = .ok (.iaload, 1) := by decide +kernel
theorem dL_law_731 : decode cL_law 731 = .ok (.aload_n 0, 1) := by decide +kernel
theorem dL_law_732 : decode cL_law 732 = .ok (.iload_n 3, 1) := by decide +kernel
theorem dL_law_733 : decode cL_law 733 = .ok (.iconst 2, 1) := by decide +kernel
theorem dL_law_734 : decode cL_law 734 = .ok (.iadd, 1) := by decide +kernel
theorem dL_law_735 : decode cL_law 735 = .ok (.iaload, 1) := by decide +kernel
theorem dL_law_736 : decode cL_law 736 = .ok (.aload_n 0, 1) := by decide +kernel
theorem dL_law_737 : decode cL_law 737 = .ok (.iload_n 3, 1) := by decide +kernel
theorem dL_law_738 : decode cL_law 738 = .ok (.iconst 3, 1) := by decide +kernel
theorem dL_law_739 : decode cL_law 739 = .ok (.iadd, 1) := by decide +kernel
theorem dL_law_740 : decode cL_law 740 = .ok (.iaload, 1) := by decide +kernel
theorem dL_law_741 : decode cL_law 741 = .ok (.invokevirtual 100, 3) := by decide +kernel
theorem dL_law_744 : decode cL_law 744 = .ok (.if_icmp .eq 379, 3) := by decide +kernel
theorem dL_law_747 : decode cL_law 747 = .ok (.iconst 0, 1) := by decide +kernel
theorem dL_law_748 : decode cL_law 748 = .ok (.ireturn, 1) := by decide +kernel
theorem dL_law_749 : decode cL_law 749 = .ok (.aload_n 1, 1) := by decide +kernel
theorem dL_law_750 : decode cL_law 750 = .ok (.aload_n 0, 1) := by decide +kernel
theorem dL_law_751 : decode cL_law 751 = .ok (.iload_n 3, 1) := by decide +kernel
theorem dL_law_752 : decode cL_law 752 = .ok (.iconst 1, 1) := by decide +kernel
theorem dL_law_753 : decode cL_law 753 = .ok (.iadd, 1) := by decide +kernel
theorem dL_law_754 : decode cL_law 754 = .ok (.iaload, 1) := by decide +kernel
theorem dL_law_755 : decode cL_law 755 = .ok (.invokevirtual 101, 3) := by decide +kernel
theorem dL_law_758 : decode cL_law 758 = .ok (.aload_n 2, 1) := by decide +kernel
theorem dL_law_759 : decode cL_law 759 = .ok (.aload_n 0, 1) := by decide +kernel
theorem dL_law_760 : decode cL_law 760 = .ok (.iload_n 3, 1) := by decide +kernel
theorem dL_law_761 : decode cL_law 761 = .ok (.iconst 1, 1) := by decide +kernel
theorem dL_law_762 : decode cL_law 762 = .ok (.iadd, 1) := by decide +kernel
theorem dL_law_763 : decode cL_law 763 = .ok (.iaload, 1) := by decide +kernel
theorem dL_law_764 : decode cL_law 764 = .ok (.invokevirtual 104, 3) := by decide +kernel
theorem dL_law_767 : decode cL_law 767 = .ok (.if_icmp .eq 356, 3) := by decide +kernel
theorem dL_law_770 : decode cL_law 770 = .ok (.iconst 0, 1) := by decide +kernel
theorem dL_law_771 : decode cL_law 771 = .ok (.ireturn, 1) := by decide +kernel
theorem dL_law_772 : decode cL_law 772 = .ok (.aload_n 1, 1) := by decide +kernel
theorem dL_law_773 : decode cL_law 773 = .ok (.aload_n 0, 1) := by decide +kernel
theorem dL_law_774 : decode cL_law 774 = .ok (.iload_n 3, 1) := by decide +kernel
theorem dL_law_775 : decode cL_law 775 = .ok (.iconst 1, 1) := by decide +kernel
theorem dL_law_776 : decode cL_law 776 = .ok (.iadd, 1) := by decide +kernel
theorem dL_law_777 : decode cL_law 777 = .ok (.iaload, 1) := by decide +kernel
theorem dL_law_778 : decode cL_law 778 = .ok (.invokevirtual 105, 3) := by decide +kernel
theorem dL_law_781 : decode cL_law 781 = .ok (.aload_n 2, 1) := by decide +kernel
theorem dL_law_782 : decode cL_law 782 = .ok (.aload_n 0, 1) := by decide +kernel
theorem dL_law_783 : decode cL_law 783 = .ok (.iload_n 3, 1) := by decide +kernel
theorem dL_law_784 : decode cL_law 784 = .ok (.iconst 1, 1) := by decide +kernel
theorem dL_law_785 : decode cL_law 785 = .ok (.iadd, 1) := by decide +kernel
theorem dL_law_786 : decode cL_law 786 = .ok (.iaload, 1) := by decide +kernel
theorem dL_law_787 : decode cL_law 787 = .ok (.invokevirtual 108, 3) := by decide +kernel
theorem dL_law_790 : decode cL_law 790 = .ok (.if_icmp .eq 333, 3) := by decide +kernel
theorem dL_law_793 : decode cL_law 793 = .ok (.iconst 0, 1) := by decide +kernel
theorem dL_law_794 : decode cL_law 794 = .ok (.ireturn, 1) := by decide +kernel
theorem dL_law_795 : decode cL_law 795 = .ok (.aload_n 1, 1) := by decide +kernel
theorem dL_law_796 : decode cL_law 796 = .ok (.aload_n 0, 1) := by decide +kernel
theorem dL_law_797 : decode cL_law 797 = .ok (.iload_n 3, 1) := by decide +kernel
theorem dL_law_798 : decode cL_law 798 = .ok (.iconst 1, 1) := by decide +kernel
theorem dL_law_799 : decode cL_law 799 = .ok (.iadd, 1) := by decide +kernel
theorem dL_law_800 : decode cL_law 800 = .ok (.iaload, 1) := by decide +kernel
theorem dL_law_801 : decode cL_law 801 = .ok (.invokevirtual 109, 3) := by decide +kernel
theorem dL_law_804 : decode cL_law 804 = .ok (.aload_n 2, 1) := by decide +kernel
theorem dL_law_805 : decode cL_law 805 = .ok (.aload_n 0, 1) := by decide +kernel
theorem dL_law_806 : decode cL_law 806 = .ok (.iload_n 3, 1) := by decide +kernel
theorem dL_law_807 : decode cL_law 807 = .ok (.iconst 1, 1) := by decide +kernel
theorem dL_law_808 : decode cL_law 808 = .ok (.iadd, 1) := by decide +kernel
theorem dL_law_809 : decode cL_law 809 = .ok (.iaload, 1) := by decide +kernel
theorem dL_law_810 : decode cL_law 810 = .ok (.invokevirtual 112, 3) := by decide +kernel
theorem dL_law_813 : decode cL_law 813 = .ok (.if_icmp .eq 310, 3) := by decide +kernel
theorem dL_law_816 : decode cL_law 816 = .ok (.iconst 0, 1) := by decide +kernel
theorem dL_law_817 : decode cL_law 817 = .ok (.ireturn, 1) := by decide +kernel
theorem dL_law_818 : decode cL_law 818 = .ok (.aload_n 1, 1) := by decide +kernel
theorem dL_law_819 : decode cL_law 819 = .ok (.aload_n 0, 1) := by decide +kernel
theorem dL_law_820 : decode cL_law 820 = .ok (.iload_n 3, 1) := by decide +kernel
theorem dL_law_821 : decode cL_law 821 = .ok (.iconst 1, 1) := by decide +kernel
theorem dL_law_822 : decode cL_law 822 = .ok (.iadd, 1) := by decide +kernel
theorem dL_law_823 : decode cL_law 823 = .ok (.iaload, 1) := by decide +kernel
theorem dL_law_824 : decode cL_law 824 = .ok (.invokevirtual 113, 3) := by decide +kernel
theorem dL_law_827 : decode cL_law 827 = .ok (.aload_n 2, 1) := by decide +kernel
theorem dL_law_828 : decode cL_law 828 = .ok (.aload_n 0, 1) := by decide +kernel
theorem dL_law_829 : decode cL_law 829 = .ok (.iload_n 3, 1) := by decide +kernel
theorem dL_law_830 : decode cL_law 830 = .ok (.iconst 1, 1) := by decide +kernel
theorem dL_law_831 : decode cL_law 831 = .ok (.iadd, 1) := by decide +kernel
theorem dL_law_832 : decode cL_law 832 = .ok (.iaload, 1) := by decide +kernel
theorem dL_law_833 : decode cL_law 833 = .ok (.invokevirtual 116, 3) := by decide +kernel
theorem dL_law_836 : decode cL_law 836 = .ok (.if_icmp .eq 287, 3) := by decide +kernel
theorem dL_law_839 : decode cL_law 839 = .ok (.iconst 0, 1) := by decide +kernel
theorem dL_law_840 : decode cL_law 840 = .ok (.ireturn, 1) := by decide +kernel
theorem dL_law_841 : decode cL_law 841 = .ok (.aload_n 1, 1) := by decide +kernel
theorem dL_law_842 : decode cL_law 842 = .ok (.aload_n 0, 1) := by decide +kernel
theorem dL_law_843 : decode cL_law 843 = .ok (.iload_n 3, 1) := by decide +kernel
theorem dL_law_844 : decode cL_law 844 = .ok (.iconst 1, 1) := by decide +kernel
theorem dL_law_845 : decode cL_law 845 = .ok (.iadd, 1) := by decide +kernel
theorem dL_law_846 : decode cL_law 846 = .ok (.iaload, 1) := by decide +kernel
theorem dL_law_847 : decode cL_law 847 = .ok (.aload_n 0, 1) := by decide +kernel
theorem dL_law_848 : decode cL_law 848 = .ok (.iload_n 3, 1) := by decide +kernel
theorem dL_law_849 : decode cL_law 849 = .ok (.iconst 2, 1) := by decide +kernel
theorem dL_law_850 : decode cL_law 850 = .ok (.iadd, 1) := by decide +kernel
theorem dL_law_851 : decode cL_law 851 = .ok (.iaload, 1) := by decide +kernel
theorem dL_law_852 : decode cL_law 852 = .ok (.invokevirtual 117, 3) := by decide +kernel
theorem dL_law_855 : decode cL_law 855 = .ok (.aload_n 2, 1) := by decide +kernel
theorem dL_law_856 : decode cL_law 856 = .ok (.aload_n 0, 1) := by decide +kernel
theorem dL_law_857 : decode cL_law 857 = .ok (.iload_n 3, 1) := by decide +kernel
theorem dL_law_858 : decode cL_law 858 = .ok (.iconst 1, 1) := by decide +kernel
theorem dL_law_859 : decode cL_law 859 = .ok (.iadd, 1) := by decide +kernel
theorem dL_law_860 : decode cL_law 860 = .ok (.iaload, 1) := by decide +kernel
theorem dL_law_861 : decode cL_law 861 = .ok (.aload_n 0, 1) := by decide +kernel
theorem dL_law_862 : decode cL_law 862 = .ok (.iload_n 3, 1) := by decide +kernel
theorem dL_law_863 : decode cL_law 863 = .ok (.iconst 2, 1) := by decide +kernel
theorem dL_law_864 : decode cL_law 864 = .ok (.iadd, 1) := by decide +kernel
theorem dL_law_865 : decode cL_law 865 = .ok (.iaload, 1) := by decide +kernel
theorem dL_law_866 : decode cL_law 866 = .ok (.invokevirtual 121, 3) := by decide +kernel
theorem dL_law_869 : decode cL_law 869 = .ok (.lcmp, 1) := by decide +kernel
theorem dL_law_870 : decode cL_law 870 = .ok (.ifCond .eq 253, 3) := by decide +kernel
theorem dL_law_873 : decode cL_law 873 = .ok (.iconst 0, 1) := by decide +kernel
theorem dL_law_874 : decode cL_law 874 = .ok (.ireturn, 1) := by decide +kernel
theorem dL_law_875 : decode cL_law 875 = .ok (.aload_n 1, 1) := by decide +kernel
theorem dL_law_876 : decode cL_law 876 = .ok (.aload_n 0, 1) := by decide +kernel
theorem dL_law_877 : decode cL_law 877 = .ok (.iload_n 3, 1) := by decide +kernel
theorem dL_law_878 : decode cL_law 878 = .ok (.iconst 1, 1) := by decide +kernel
theorem dL_law_879 : decode cL_law 879 = .ok (.iadd, 1) := by decide +kernel
theorem dL_law_880 : decode cL_law 880 = .ok (.iaload, 1) := by decide +kernel
theorem dL_law_881 : decode cL_law 881 = .ok (.aload_n 0, 1) := by decide +kernel
theorem dL_law_882 : decode cL_law 882 = .ok (.iload_n 3, 1) := by decide +kernel
theorem dL_law_883 : decode cL_law 883 = .ok (.iconst 2, 1) := by decide +kernel
theorem dL_law_884 : decode cL_law 884 = .ok (.iadd, 1) := by decide +kernel
theorem dL_law_885 : decode cL_law 885 = .ok (.iaload, 1) := by decide +kernel
theorem dL_law_886 : decode cL_law 886 = .ok (.aload_n 0, 1) := by decide +kernel
theorem dL_law_887 : decode cL_law 887 = .ok (.iload_n 3, 1) := by decide +kernel
theorem dL_law_888 : decode cL_law 888 = .ok (.iconst 3, 1) := by decide +kernel
theorem dL_law_889 : decode cL_law 889 = .ok (.iadd, 1) := by decide +kernel
theorem dL_law_890 : decode cL_law 890 = .ok (.iaload, 1) := by decide +kernel
theorem dL_law_891 : decode cL_law 891 = .ok (.invokevirtual 122, 3) := by decide +kernel
theorem dL_law_894 : decode cL_law 894 = .ok (.aload_n 2, 1) := by decide +kernel
theorem dL_law_895 : decode cL_law 895 = .ok (.aload_n 0, 1) := by decide +kernel
theorem dL_law_896 : decode cL_law 896 = .ok (.iload_n 3, 1) := by decide +kernel
theorem dL_law_897 : decode cL_law 897 = .ok (.iconst 1, 1) := by decide +kernel
theorem dL_law_898 : decode cL_law 898 = .ok (.iadd, 1) := by decide +kernel
theorem dL_law_899 : decode cL_law 899 = .ok (.iaload, 1) := by decide +kernel
theorem dL_law_900 : decode cL_law 900 = .ok (.aload_n 0, 1) := by decide +kernel
theorem dL_law_901 : decode cL_law 901 = .ok (.iload_n 3, 1) := by decide +kernel
theorem dL_law_902 : decode cL_law 902 = .ok (.iconst 2, 1) := by decide +kernel
theorem dL_law_903 : decode cL_law 903 = .ok (.iadd, 1) := by decide +kernel
theorem dL_law_904 : decode cL_law 904 = .ok (.iaload, 1) := by decide +kernel
theorem dL_law_905 : decode cL_law 905 = .ok (.aload_n 0, 1) := by decide +kernel
theorem dL_law_906 : decode cL_law 906 = .ok (.iload_n 3, 1) := by decide +kernel
theorem dL_law_907 : decode cL_law 907 = .ok (.iconst 3, 1) := by decide +kernel
theorem dL_law_908 : decode cL_law 908 = .ok (.iadd, 1) := by decide +kernel
theorem dL_law_909 : decode cL_law 909 = .ok (.iaload, 1) := by decide +kernel
theorem dL_law_910 : decode cL_law 910 = .ok (.invokevirtual 125, 3) := by decide +kernel
theorem dL_law_913 : decode cL_law 913 = .ok (.if_icmp .eq 210, 3) := by decide +kernel
theorem dL_law_916 : decode cL_law 916 = .ok (.iconst 0, 1) := by decide +kernel
theorem dL_law_917 : decode cL_law 917 = .ok (.ireturn, 1) := by decide +kernel
theorem dL_law_918 : decode cL_law 918 = .ok (.aload_n 1, 1) := by decide +kernel
theorem dL_law_919 : decode cL_law 919 = .ok (.aload_n 0, 1) := by decide +kernel
theorem dL_law_920 : decode cL_law 920 = .ok (.iload_n 3, 1) := by decide +kernel
theorem dL_law_921 : decode cL_law 921 = .ok (.iconst 1, 1) := by decide +kernel
theorem dL_law_922 : decode cL_law 922 = .ok (.iadd, 1) := by decide +kernel
theorem dL_law_923 : decode cL_law 923 = .ok (.iaload, 1) := by decide +kernel
theorem dL_law_924 : decode cL_law 924 = .ok (.aload_n 0, 1) := by decide +kernel
theorem dL_law_925 : decode cL_law 925 = .ok (.iload_n 3, 1) := by decide +kernel
theorem dL_law_926 : decode cL_law 926 = .ok (.iconst 2, 1) := by decide +kernel
theorem dL_law_927 : decode cL_law 927 = .ok (.iadd, 1) := by decide +kernel
theorem dL_law_928 : decode cL_law 928 = .ok (.iaload, 1) := by decide +kernel
theorem dL_law_929 : decode cL_law 929 = .ok (.invokevirtual 126, 3) := by decide +kernel
theorem dL_law_932 : decode cL_law 932 = .ok (.aload_n 2, 1) := by decide +kernel
theorem dL_law_933 : decode cL_law 933 = .ok (.aload_n 0, 1) := by decide +kernel
theorem dL_law_934 : decode cL_law 934 = .ok (.iload_n 3, 1) := by decide +kernel
theorem dL_law_935 : decode cL_law 935 = .ok (.iconst 1, 1) := by decide +kernel
theorem dL_law_936 : decode cL_law 936 = .ok (.iadd, 1) := by decide +kernel
theorem dL_law_937 : decode cL_law 937 = .ok (.iaload, 1) := by decide +kernel
theorem dL_law_938 : decode cL_law 938 = .ok (.aload_n 0, 1) := by decide +kernel
theorem dL_law_939 : decode cL_law 939 = .ok (.iload_n 3, 1) := by decide +kernel
theorem dL_law_940 : decode cL_law 940 = .ok (.iconst 2, 1) := by decide +kernel
theorem dL_law_941 : decode cL_law 941 = .ok (.iadd, 1) := by decide +kernel
theorem dL_law_942 : decode cL_law 942 = .ok (.iaload, 1) := by decide +kernel
theorem dL_law_943 : decode cL_law 943 = .ok (.invokevirtual 129, 3) := by decide +kernel
theorem dL_law_946 : decode cL_law 946 = .ok (.if_icmp .eq 177, 3) := by decide +kernel
theorem dL_law_949 : decode cL_law 949 = .ok (.iconst 0, 1) := by decide +kernel
theorem dL_law_950 : decode cL_law 950 = .ok (.ireturn, 1) := by decide +kernel
theorem dL_law_951 : decode cL_law 951 = .ok (.aload_n 1, 1) := by decide +kernel
theorem dL_law_952 : decode cL_law 952 = .ok (.aload_n 0, 1) := by decide +kernel
theorem dL_law_953 : decode cL_law 953 = .ok (.iload_n 3, 1) := by decide +kernel
theorem dL_law_954 : decode cL_law 954 = .ok (.iconst 1, 1) := by decide +kernel
theorem dL_law_955 : decode cL_law 955 = .ok (.iadd, 1) := by decide +kernel
theorem dL_law_956 : decode cL_law 956 = .ok (.iaload, 1) := by decide +kernel
theorem dL_law_957 : decode cL_law 957 = .ok (.aload_n 0, 1) := by decide +kernel
theorem dL_law_958 : decode cL_law 958 = .ok (.iload_n 3, 1) := by decide +kernel
theorem dL_law_959 : decode cL_law 959 = .ok (.iconst 2, 1) := by decide +kernel
theorem dL_law_960 : decode cL_law 960 = .ok (.iadd, 1) := by decide +kernel
theorem dL_law_961 : decode cL_law 961 = .ok (.iaload, 1) := by decide +kernel
theorem dL_law_962 : decode cL_law 962 = .ok (.i2l, 1) := by decide +kernel
theorem dL_law_963 : decode cL_law 963 = .ok (.bipush 32, 2) := by decide +kernel
theorem dL_law_965 : decode cL_law 965 = .ok (.lshl, 1) := by decide +kernel
theorem dL_law_966 : decode cL_law 966 = .ok (.aload_n 0, 1) := by decide +kernel
theorem dL_law_967 : decode cL_law 967 = .ok (.iload_n 3, 1) := by decide +kernel
theorem dL_law_968 : decode cL_law 968 = .ok (.iconst 3, 1) := by decide +kernel
theorem dL_law_969 : decode cL_law 969 = .ok (.iadd, 1) := by decide +kernel
theorem dL_law_970 : decode cL_law 970 = .ok (.iaload, 1) := by decide +kernel
theorem dL_law_971 : decode cL_law 971 = .ok (.i2l, 1) := by decide +kernel
theorem dL_law_972 : decode cL_law 972 = .ok (.ldc2_w 130, 3) := by decide +kernel
theorem dL_law_975 : decode cL_law 975 = .ok (.land, 1) := by decide +kernel
theorem dL_law_976 : decode cL_law 976 = .ok (.lor, 1) := by decide +kernel
theorem dL_law_977 : decode cL_law 977 = .ok (.invokevirtual 132, 3) := by decide +kernel
theorem dL_law_980 : decode cL_law 980 = .ok (.aload_n 2, 1) := by decide +kernel
theorem dL_law_981 : decode cL_law 981 = .ok (.aload_n 0, 1) := by decide +kernel
theorem dL_law_982 : decode cL_law 982 = .ok (.iload_n 3, 1) := by decide +kernel
theorem dL_law_983 : decode cL_law 983 = .ok (.iconst 1, 1) := by decide +kernel
theorem dL_law_984 : decode cL_law 984 = .ok (.iadd, 1) := by decide +kernel
theorem dL_law_985 : decode cL_law 985 = .ok (.iaload, 1) := by decide +kernel
theorem dL_law_986 : decode cL_law 986 = .ok (.aload_n 0, 1) := by decide +kernel
theorem dL_law_987 : decode cL_law 987 = .ok (.iload_n 3, 1) := by decide +kernel
theorem dL_law_988 : decode cL_law 988 = .ok (.iconst 2, 1) := by decide +kernel
theorem dL_law_989 : decode cL_law 989 = .ok (.iadd, 1) := by decide +kernel
theorem dL_law_990 : decode cL_law 990 = .ok (.iaload, 1) := by decide +kernel
theorem dL_law_991 : decode cL_law 991 = .ok (.i2l, 1) := by decide +kernel
theorem dL_law_992 : decode cL_law 992 = .ok (.bipush 32, 2) := by decide +kernel
theorem dL_law_994 : decode cL_law 994 = .ok (.lshl, 1) := by decide +kernel
theorem dL_law_995 : decode cL_law 995 = .ok (.aload_n 0, 1) := by decide +kernel
theorem dL_law_996 : decode cL_law 996 = .ok (.iload_n 3, 1) := by decide +kernel
theorem dL_law_997 : decode cL_law 997 = .ok (.iconst 3, 1) := by decide +kernel
theorem dL_law_998 : decode cL_law 998 = .ok (.iadd, 1) := by decide +kernel
theorem dL_law_999 : decode cL_law 999 = .ok (.iaload, 1) := by decide +kernel
theorem dL_law_1000 : decode cL_law 1000 = .ok (.i2l, 1) := by decide +kernel
theorem dL_law_1001 : decode cL_law 1001 = .ok (.ldc2_w 130, 3) := by decide +kernel
theorem dL_law_1004 : decode cL_law 1004 = .ok (.land, 1) := by decide +kernel
theorem dL_law_1005 : decode cL_law 1005 = .ok (.lor, 1) := by decide +kernel
theorem dL_law_1006 : decode cL_law 1006 = .ok (.invokevirtual 136, 3) := by decide +kernel
theorem dL_law_1009 : decode cL_law 1009 = .ok (.if_icmp .eq 114, 3) := by decide +kernel
theorem dL_law_1012 : decode cL_law 1012 = .ok (.iconst 0, 1) := by decide +kernel
theorem dL_law_1013 : decode cL_law 1013 = .ok (.ireturn, 1) := by decide +kernel
theorem dL_law_1014 : decode cL_law 1014 = .ok (.aload_n 1, 1) := by decide +kernel
theorem dL_law_1015 : decode cL_law 1015 = .ok (.aload_n 0, 1) := by decide +kernel
theorem dL_law_1016 : decode cL_law 1016 = .ok (.iload_n 3, 1) := by decide +kernel
theorem dL_law_1017 : decode cL_law 1017 = .ok (.iconst 1, 1) := by decide +kernel
theorem dL_law_1018 : decode cL_law 1018 = .ok (.iadd, 1) := by decide +kernel
theorem dL_law_1019 : decode cL_law 1019 = .ok (.iaload, 1) := by decide +kernel
theorem dL_law_1020 : decode cL_law 1020 = .ok (.i2l, 1) := by decide +kernel
theorem dL_law_1021 : decode cL_law 1021 = .ok (.bipush 32, 2) := by decide +kernel
theorem dL_law_1023 : decode cL_law 1023 = .ok (.lshl, 1) := by decide +kernel
theorem dL_law_1024 : decode cL_law 1024 = .ok (.aload_n 0, 1) := by decide +kernel
theorem dL_law_1025 : decode cL_law 1025 = .ok (.iload_n 3, 1) := by decide +kernel
theorem dL_law_1026 : decode cL_law 1026 = .ok (.iconst 2, 1) := by decide +kernel
theorem dL_law_1027 : decode cL_law 1027 = .ok (.iadd, 1) := by decide +kernel
theorem dL_law_1028 : decode cL_law 1028 = .ok (.iaload, 1) := by decide +kernel
theorem dL_law_1029 : decode cL_law 1029 = .ok (.i2l, 1) := by decide +kernel
theorem dL_law_1030 : decode cL_law 1030 = .ok (.ldc2_w 130, 3) := by decide +kernel
theorem dL_law_1033 : decode cL_law 1033 = .ok (.land, 1) := by decide +kernel
theorem dL_law_1034 : decode cL_law 1034 = .ok (.lor, 1) := by decide +kernel
theorem dL_law_1035 : decode cL_law 1035 = .ok (.aload_n 0, 1) := by decide +kernel
theorem dL_law_1036 : decode cL_law 1036 = .ok (.iload_n 3, 1) := by decide +kernel
theorem dL_law_1037 : decode cL_law 1037 = .ok (.iconst 3, 1) := by decide +kernel
theorem dL_law_1038 : decode cL_law 1038 = .ok (.iadd, 1) := by decide +kernel
theorem dL_law_1039 : decode cL_law 1039 = .ok (.iaload, 1) := by decide +kernel
theorem dL_law_1040 : decode cL_law 1040 = .ok (.invokevirtual 137, 3) := by decide +kernel
theorem dL_law_1043 : decode cL_law 1043 = .ok (.aload_n 2, 1) := by decide +kernel
theorem dL_law_1044 : decode cL_law 1044 = .ok (.aload_n 0, 1) := by decide +kernel
theorem dL_law_1045 : decode cL_law 1045 = .ok (.iload_n 3, 1) := by decide +kernel
theorem dL_law_1046 : decode cL_law 1046 = .ok (.iconst 1, 1) := by decide +kernel
theorem dL_law_1047 : decode cL_law 1047 = .ok (.iadd, 1) := by decide +kernel
theorem dL_law_1048 : decode cL_law 1048 = .ok (.iaload, 1) := by decide +kernel
theorem dL_law_1049 : decode cL_law 1049 = .ok (.i2l, 1) := by decide +kernel
theorem dL_law_1050 : decode cL_law 1050 = .ok (.bipush 32, 2) := by decide +kernel
theorem dL_law_1052 : decode cL_law 1052 = .ok (.lshl, 1) := by decide +kernel
theorem dL_law_1053 : decode cL_law 1053 = .ok (.aload_n 0, 1) := by decide +kernel
theorem dL_law_1054 : decode cL_law 1054 = .ok (.iload_n 3, 1) := by decide +kernel
theorem dL_law_1055 : decode cL_law 1055 = .ok (.iconst 2, 1) := by decide +kernel
theorem dL_law_1056 : decode cL_law 1056 = .ok (.iadd, 1) := by decide +kernel
theorem dL_law_1057 : decode cL_law 1057 = .ok (.iaload, 1) := by decide +kernel
theorem dL_law_1058 : decode cL_law 1058 = .ok (.i2l, 1) := by decide +kernel
theorem dL_law_1059 : decode cL_law 1059 = .ok (.ldc2_w 130, 3) := by decide +kernel
theorem dL_law_1062 : decode cL_law 1062 = .ok (.land, 1) := by decide +kernel
theorem dL_law_1063 : decode cL_law 1063 = .ok (.lor, 1) := by decide +kernel
theorem dL_law_1064 : decode cL_law 1064 = .ok (.aload_n 0, 1) := by decide +kernel
theorem dL_law_1065 : decode cL_law 1065 = .ok (.iload_n 3, 1) := by decide +kernel
theorem dL_law_1066 : decode cL_law 1066 = .ok (.iconst 3, 1) := by decide +kernel
theorem dL_law_1067 : decode cL_law 1067 = .ok (.iadd, 1) := by decide +kernel
theorem dL_law_1068 : decode cL_law 1068 = .ok (.iaload, 1) := by decide +kernel
theorem dL_law_1069 : decode cL_law 1069 = .ok (.invokevirtual 141, 3) := by decide +kernel
theorem dL_law_1072 : decode cL_law 1072 = .ok (.if_icmp .eq 51, 3) := by decide +kernel
theorem dL_law_1075 : decode cL_law 1075 = .ok (.iconst 0, 1) := by decide +kernel
theorem dL_law_1076 : decode cL_law 1076 = .ok (.ireturn, 1) := by decide +kernel
theorem dL_law_1077 : decode cL_law 1077 = .ok (.aload_n 1, 1) := by decide +kernel
theorem dL_law_1078 : decode cL_law 1078 = .ok (.aload_n 0, 1) := by decide +kernel
theorem dL_law_1079 : decode cL_law 1079 = .ok (.iload_n 3, 1) := by decide +kernel
theorem dL_law_1080 : decode cL_law 1080 = .ok (.iconst 1, 1) := by decide +kernel
theorem dL_law_1081 : decode cL_law 1081 = .ok (.iadd, 1) := by decide +kernel
theorem dL_law_1082 : decode cL_law 1082 = .ok (.iaload, 1) := by decide +kernel
theorem dL_law_1083 : decode cL_law 1083 = .ok (.invokevirtual 142, 3) := by decide +kernel
theorem dL_law_1086 : decode cL_law 1086 = .ok (.aload_n 2, 1) := by decide +kernel
theorem dL_law_1087 : decode cL_law 1087 = .ok (.aload_n 0, 1) := by decide +kernel
theorem dL_law_1088 : decode cL_law 1088 = .ok (.iload_n 3, 1) := by decide +kernel
theorem dL_law_1089 : decode cL_law 1089 = .ok (.iconst 1, 1) := by decide +kernel
theorem dL_law_1090 : decode cL_law 1090 = .ok (.iadd, 1) := by decide +kernel
theorem dL_law_1091 : decode cL_law 1091 = .ok (.iaload, 1) := by decide +kernel
theorem dL_law_1092 : decode cL_law 1092 = .ok (.invokevirtual 145, 3) := by decide +kernel
theorem dL_law_1095 : decode cL_law 1095 = .ok (.if_icmp .eq 28, 3) := by decide +kernel
theorem dL_law_1098 : decode cL_law 1098 = .ok (.iconst 0, 1) := by decide +kernel
theorem dL_law_1099 : decode cL_law 1099 = .ok (.ireturn, 1) := by decide +kernel
theorem dL_law_1100 : decode cL_law 1100 = .ok (.aload_n 1, 1) := by decide +kernel
theorem dL_law_1101 : decode cL_law 1101 = .ok (.aload_n 0, 1) := by decide +kernel
theorem dL_law_1102 : decode cL_law 1102 = .ok (.iload_n 3, 1) := by decide +kernel
theorem dL_law_1103 : decode cL_law 1103 = .ok (.iconst 1, 1) := by decide +kernel
theorem dL_law_1104 : decode cL_law 1104 = .ok (.iadd, 1) := by decide +kernel
theorem dL_law_1105 : decode cL_law 1105 = .ok (.iaload, 1) := by decide +kernel
theorem dL_law_1106 : decode cL_law 1106 = .ok (.invokevirtual 146, 3) := by decide +kernel
theorem dL_law_1109 : decode cL_law 1109 = .ok (.aload_n 2, 1) := by decide +kernel
theorem dL_law_1110 : decode cL_law 1110 = .ok (.aload_n 0, 1) := by decide +kernel
theorem dL_law_1111 : decode cL_law 1111 = .ok (.iload_n 3, 1) := by decide +kernel
theorem dL_law_1112 : decode cL_law 1112 = .ok (.iconst 1, 1) := by decide +kernel
theorem dL_law_1113 : decode cL_law 1113 = .ok (.iadd, 1) := by decide +kernel
theorem dL_law_1114 : decode cL_law 1114 = .ok (.iaload, 1) := by decide +kernel
theorem dL_law_1115 : decode cL_law 1115 = .ok (.invokevirtual 149, 3) := by decide +kernel
theorem dL_law_1118 : decode cL_law 1118 = .ok (.if_icmp .eq 5, 3) := by decide +kernel
theorem dL_law_1121 : decode cL_law 1121 = .ok (.iconst 0, 1) := by decide +kernel
theorem dL_law_1122 : decode cL_law 1122 = .ok (.ireturn, 1) := by decide +kernel
theorem dL_law_1123 : decode cL_law 1123 = .ok (.iinc 3 4, 3) := by decide +kernel
theorem dL_law_1126 : decode cL_law 1126 = .ok (.goto (-1108), 3) := by decide +kernel
theorem dL_law_1129 : decode cL_law 1129 = .ok (.iconst 1, 1) := by decide +kernel
theorem dL_law_1130 : decode cL_law 1130 = .ok (.ireturn, 1) := by decide +kernel
end
section
/-! THE BASE: all cells of the run as one numbered row of cells; a memory of ints over a fixed shape; one judgement Xg with a rule an instruction -/
def TB : List Cond := lw_tbl.filter goodWord
theorem TB_in {w : Cond} (i : Nat) (h : lw_tbl[i]? = some w) (g : goodWord w = true) : w ∈ TB := List.mem_filter.mpr ⟨List.mem_of_getElem? h, g⟩
theorem TB_good {w : Cond} (h : w ∈ TB) : (w.onTables && w.keeps) = true ∨ ∃ ty, w = .arrayClass ty := good_of_word (List.mem_filter.mp h).2
theorem TB_tbl {w : Cond} (h : w ∈ TB) : w ∈ lw_tbl := (List.mem_filter.mp h).1
/-- a method: its name, code, locals, what it returns, its room -/
abbrev MTy : Type := MethodName × ByteArray × Nat × Option FieldType × Room
abbrev Mem : Type := Nat → Nat → Int32
abbrev Lv : Type := List (Nat × Value)
/-- the numbered cells: the class numbers, the four array kinds, how many cells, their addresses, cells of another content -/
abbrev Gx : Type := va_G × (ClassId × ClassId × ClassId × ClassId) × Nat × (Nat → Nat) × (Nat → Option va_E)
abbrev gD (G : Gx) : va_G := G.1
abbrev gC (G : Gx) : ClassId × ClassId × ClassId × ClassId := G.2.1
abbrev gK (G : Gx) : Nat := G.2.2.1
abbrev gA (G : Gx) : Nat → Nat := G.2.2.2.1
abbrev gO (G : Gx) : Nat → Option va_E := G.2.2.2.2
abbrev T4 (cs : ClassId × ClassId × ClassId × ClassId) : List (ClassId × FieldType) := [(cs.1, .int), (cs.2.1, .boolean), (cs.2.2.1, .object RX1), (cs.2.2.2, .array .int)]
def wd (K : Nat) (ad : Nat → Nat) (ct : Nat → va_E) : va_W := (List.range K).map (fun i => (ad i, ct i))
theorem wd_at {K : Nat} {ad : Nat → Nat} {ct : Nat → va_E} {j : Nat} (h : j < K) : (wd K ad ct)[j]? = some (ad j, ct j) := by
  simp [wd, h]
theorem wd_len {K : Nat} {ad : Nat → Nat} {ct : Nat → va_E} : (wd K ad ct).length = K := by simp [wd]
theorem wd_mem {K : Nat} {ad : Nat → Nat} {ct : Nat → va_E} {k : Nat} {q : Nat × va_E} (h : (wd K ad ct)[k]? = some q) : k < K ∧ q = (ad k, ct k) := by
  have hk : k < K := by have := (List.getElem?_eq_some_iff.mp h).1; rwa [wd_len] at this
  rw [wd_at hk] at h
  exact ⟨hk, (Option.some.inj h).symm⟩
theorem wd_set {K : Nat} {ad : Nat → Nat} {ct ct' : Nat → va_E} {j : Nat} {e : va_E} (h : j < K) (he : ct' j = e) (ho : ∀ i, i ≠ j → ct' i = ct i) : (wd K ad ct).set j (ad j, e) = wd K ad ct' := by
  apply List.ext_getElem?
  intro i
  by_cases hij : i = j
  · subst hij
    rw [List.getElem?_set_self (by rw [wd_len]; exact h), wd_at h, he]
  · rw [List.getElem?_set_ne (Ne.symm hij)]
    by_cases hi : i < K
    · rw [wd_at hi, wd_at hi, ho i hij]
    · rw [List.getElem?_eq_none (by rw [wd_len]; omega), List.getElem?_eq_none (by rw [wd_len]; omega)]
theorem wd_congr {K : Nat} {ad ad' : Nat → Nat} {ct ct' : Nat → va_E} (h : ∀ i, i < K → ct i = ct' i) (h2 : ∀ i, i < K → ad i = ad' i) : wd K ad ct = wd K ad' ct' := by
  unfold wd
  apply List.map_congr_left
  intro i hi
  rw [h i (List.mem_range.mp hi), h2 i (List.mem_range.mp hi)]
theorem wd_push {K : Nat} {ad : Nat → Nat} {ct : Nat → va_E} : wd (K + 1) ad ct = wd K ad ct ++ [(ad K, ct K)] := by
  simp [wd, List.range_succ]
/-! the shape -/
def rI (cs : ClassId × ClassId × ClassId × ClassId) (n : Nat) (r : Nat → Int32) : va_E := .inl (cs.1, n, .inl r)
def rZ (cs : ClassId × ClassId × ClassId × ClassId) (n : Nat) (r : Nat → Int32) : va_E := .inl (cs.2.1, n, .inl r)
def rF (cs : ClassId × ClassId × ClassId × ClassId) (n : Nat) (f : Nat → Option Nat) : va_E := .inl (cs.2.2.1, n, .inr (.inr (.inr (.inr f))))
def rR (cs : ClassId × ClassId × ClassId × ClassId) (n : Nat) (f : Nat → Option Nat) : va_E := .inl (cs.2.2.2, n, .inr (.inr (.inr (.inr f))))
/-- a forest's fifteen cells, from b on -/
def cF (cs : ClassId × ClassId × ClassId × ClassId) (ad : Nat → Nat) (b i : Nat) (r : Nat → Int32) : va_E :=
  if i = 0 then .inr (1, [.int (r 0), .ref (ad (b + 1)), .ref (ad (b + 2))]) else if i = 2 then rR cs 12 (fun k => if k < 12 then some (ad (b + 3 + k)) else none) else rI cs 12 r
/-- a survey's fourteen cells -/
def cS (cs : ClassId × ClassId × ClassId × ClassId) (ad : Nat → Nat) (f b i : Nat) (r : Nat → Int32) : va_E :=
  if i = 0 then .inr (5, [.ref (ad f), .int (r 1), .ref (ad (b + 1))]) else if i = 1 then rR cs 12 (fun k => if k < 12 then some (ad (b + 2 + k)) else none) else rI cs 12 r
def cC (cs : ClassId × ClassId × ClassId × ClassId) (ad : Nat → Nat) (j : Nat) (r : Nat → Int32) : va_E :=
  if j = 59 then .inr (0, [.int (r 0), .int (r 1), .int (r 2), .ref (ad 60), .ref (ad 61), .ref (ad 62), .ref (ad 63)]) else if j = 60 then rZ cs 12 r else if j = 61 then rZ cs 12 r else if j = 63 then rR cs 12 (fun k => if k < 12 then some (ad (64 + k)) else none) else rI cs 12 r
def cT (cs : ClassId × ClassId × ClassId × ClassId) (ad : Nat → Nat) (j : Nat) (r : Nat → Int32) : va_E :=
  if j = 76 then .inr (4, [.int (r 0), .ref (ad 77), .int (r 2), .ref (ad 78)]) else if j = 77 then rI cs 80 r else if j = 78 then rI cs 12 r else if j = 79 then .inr (2, [.ref (ad 80), .int (r 1), .int (r 2)]) else rF cs 14 (fun k => if k < 14 then some (ad (81 + 15 * k)) else none)
def cO (cs : ClassId × ClassId × ClassId × ClassId) (ad : Nat → Nat) (j : Nat) (r : Nat → Int32) : va_E :=
  if j = 291 then .inr (3, [.ref (ad 292), .ref (ad 293), .ref (ad 294), .int (r 3), .int (r 4)]) else if j = 295 then rF cs 2 (fun k => if k < 2 then some (ad (296 + 15 * k)) else none) else rI cs 6 r
def cM (cs : ClassId × ClassId × ClassId × ClassId) (ad : Nat → Nat) (j : Nat) (r : Nat → Int32) : va_E :=
  if j = 327 then .inr (7, [.ref (ad 328), .int (r 1), .int (r 2), .int (r 3), .int (r 4), .ref (ad 329), .ref (ad 330), .ref (ad 331), .ref (ad 332), .int (r 9), .int (r 10), .ref (ad 333), .ref (ad 334), .ref (ad 335), .int (r 14), .ref (ad 336), .ref (ad 337), .ref (ad 338), .ref (ad 339), .ref (ad 340), .ref (ad 341), .ref (ad 342), .int (r 22), .int (r 23)])
  else if j = 328 then rI cs 80 r else if j < 332 then rI cs 156 r else if j = 332 then rI cs 2184 r else if j = 333 then rI cs 312 r else if j = 334 then rZ cs 2 r else if j = 335 then rI cs 18 r else if j < 339 then rI cs 12 r else if j = 339 then rI cs 144 r else if j = 340 then rZ cs 12 r else if j = 341 then rZ cs 12 r else rI cs 12 r
/-- what the cell of number j is, with the ints r -/
def cellAt (cs : ClassId × ClassId × ClassId × ClassId) (ad : Nat → Nat) (j : Nat) (r : Nat → Int32) : va_E :=
  if j = 0 then .inr (6, [.ref (ad 1), .ref (ad 16), .ref (ad 30), .ref (ad 45), .ref (ad 59), .ref (ad 76), .ref (ad 79), .ref (ad 291), .ref (ad 295), .ref (ad 326)])
  else if j < 16 then cF cs ad 1 (j - 1) r else if j < 30 then cS cs ad 1 16 (j - 16) r else if j < 45 then cF cs ad 30 (j - 30) r else if j < 59 then cS cs ad 30 45 (j - 45) r
  else if j < 76 then cC cs ad j r else if j < 81 then cT cs ad j r else if j < 291 then cF cs ad (81 + 15 * ((j - 81) / 15)) ((j - 81) % 15) r else if j < 296 then cO cs ad j r
  else if j < 326 then cF cs ad (296 + 15 * ((j - 296) / 15)) ((j - 296) % 15) r else if j = 326 then rZ cs 2 r else cM cs ad j r
def cellR (G : Gx) (j : Nat) (r : Nat → Int32) : va_E := match gO G j with
  | some e => e
  | none => cellAt (gC G) (gA G) j r
abbrev cellOf (G : Gx) (m : Mem) : Nat → va_E := fun j => cellR G j (m j)
def wrA (m : Mem) (j : Nat) (g : Nat → Int32) : Mem := fun a => if a = j then g else m a
abbrev wr (m : Mem) (j k : Nat) (v : Int32) : Mem := wrA m j (upd (m j) k v)
/-- arrays of int rows, and of forests: their classes are there -/
def kx_AA (U : State) : Prop := (Cond.arrayOver (.array .int)).before #[] U = true
theorem kx_AA.moved {u U : State} (hvm : u.vm.Alike U.vm) (h : kx_AA u) : kx_AA U := by
  unfold kx_AA Cond.before Cond.holds at h ⊢
  simp only [Cond.value, beq_iff_eq] at h ⊢
  cases hc : u.vm.findClass (FieldType.array .int).toString with
  | none => simp [hc] at h
  | some comp =>
    simp only [hc, Option.bind_some, Option.bind_eq_some_iff, Option.map_eq_some_iff] at h
    obtain ⟨c, hi, k, hk, hb⟩ := h
    obtain ⟨k', hk', he⟩ := hvm.2.2 _ _ hk
    have e1 := va_idx_bare U.vm comp
    have e2 := va_idx_bare u.vm comp
    have e3 : U.vm.bare = u.vm.bare := by first | exact hvm.bare_eq | exact hvm.bare_eq.symm
    rw [e3] at e1
    have hkind : k'.kind = k.kind := by rw [he]
    have f1 : U.vm.findClass (FieldType.array .int).toString = some comp := by rw [hvm.findClass]; exact hc
    rw [f1, Option.bind_some]
    refine (congrArg (fun o : Option Nat => (o.bind (fun c => (U.vm.classes[c]?).map fun (k : Class) => match k.kind with | .array _ ty => decide (ty = FieldType.array .int) && decide (U.vm.findClass ("[" ++ (FieldType.array .int).toString) = some c) | _ => false))) (e1.symm.trans (e2.trans hi))).trans ?_
    simp only [Option.bind_some, hk', Option.map_some]
    rw [hkind, hvm.findClass]
    exact congrArg some hb
def Kx (G : Gx) (U : State) : Prop := va_K (gD G) vwCl (T4 (gC G)) U ∧ va_AO RX1 U ∧ kx_AA U
theorem Kx.moved {G : Gx} {u U : State} (hvm : u.vm.Alike U.vm) (h : Kx G u) : Kx G U := ⟨h.1.moved hvm, h.2.1.moved hvm, h.2.2.moved hvm⟩
/-! the judgement -/
def Cx (M : MTy) (A : State → Nat → Prop) (E : Array Value → State → Prop) (G : Gx) (p : Program) (s : State) (m : MethodId) (args : Array Value) (meth : Method) (c : Code) : Prop :=
  p.tables.exec = Jvm.exec ∧ c.code = M.2.1 ∧ c.maxLocals = M.2.2.1 ∧ s.vm.findClass M.1.cls = some m.cls ∧ (∀ w ∈ TB, w.before args s = true) ∧ meth.sig.returnType = M.2.2.2.1 ∧ meth.locks = false ∧ meth.name = M.1.name ∧ Kx G s ∧ (∀ q, s.heap.size ≤ q → A s q) ∧ E args s
def Xg (l : Launch) (M : MTy) (A : State → Nat → Prop) (Z : List Frame → Array Value → State → State → Prop) (E : Array Value → State → Prop) (G : Gx) (cells slots : Nat) (mem : Mem) (pc : Nat) (lv : Lv) (st : List Value) : Prop :=
  ∀ (p : Program) (e : Env) (s : State) (m : MethodId) (args : Array Value) (below : List Frame) (meth : Method) (c : Code) (H : Heap) (locs : List Loc) (ls : Array Slot),
    Cx M A E G p s m args meth c → va_P (gD G) vwCl (wd (gK G) (gA G) (cellOf G mem)) H → va_D (A s) (wd (gK G) (gA G) (cellOf G mem)) → va_S (A s) s.heap H locs → lv_has ls M.2.2.1 lv →
    W p l e M.2.2.2.2 s m args below meth c H locs cells slots (Z below args s) (F0 m pc ls st)
/-- which cells a method may change -/
def Fr (G : Gx) (sz : Nat) : Nat → Prop := fun q => (∃ i, i < gK G ∧ q = gA G i) ∨ sz ≤ q
/-- what a method's end says -/
def Qm (G : Gx) (P : Option Value → Gx → Mem → Prop) (sz : Nat) : Array Value → State → Outcome → State → Prop := fun _ st oc t =>
  (∃ (o : Option Value) (G' : Gx) (mem' : Mem), oc = .returned o ∧ P o G' mem' ∧ gD G' = gD G ∧ gC G' = gC G ∧ va_P (gD G) vwCl (wd (gK G') (gA G') (cellOf G' mem')) t.heap ∧ va_D (Fr G sz) (wd (gK G') (gA G') (cellOf G' mem'))) ∧ va_F (Fr G sz) st t
def Pm (G : Gx) (mem : Mem) (sz : Nat) : State → Prop := fun U => U.heap.size = sz ∧ va_P (gD G) vwCl (wd (gK G) (gA G) (cellOf G mem)) U.heap ∧ Kx G U ∧ va_D (fun _ => True) (wd (gK G) (gA G) (cellOf G mem))
abbrev wsM (M : MTy) : List Cond := Cond.code M.1 M.2.1 M.2.2.1 M.2.2.2.1 :: TB
/-- CONTRACT: from the memory mem, with the arguments As, the method returns, and its answer, the cells and the memory satisfy P -/
def Ctg (l : Launch) (M : MTy) (G : Gx) (mc ms : Nat) (As : List Value) (mem : Mem) (P : Option Value → Gx → Mem → Prop) : Prop :=
  ∀ sz : Nat, Met l M.1 (wsM M) M.2.2.2.2 (va_Pc As (Pm G mem sz)) (Qm G P sz) mc ms (Fr G sz)
abbrev Ct (l : Launch) (M : MTy) (G : Gx) (As : List Value) (mem : Mem) (P : Option Value → Mem → Prop) : Prop := Ctg l M G 0 0 As mem (fun o G' m' => G' = G ∧ P o m')
abbrev CtI (l : Launch) (M : MTy) (G : Gx) (As : List Value) (mem : Mem) (P : Int32 → Mem → Prop) : Prop := Ct l M G As mem (fun o m' => ∃ r, o = some (.int r) ∧ P r m')
abbrev CtL (l : Launch) (M : MTy) (G : Gx) (As : List Value) (mem : Mem) (P : Int64 → Mem → Prop) : Prop := Ct l M G As mem (fun o m' => ∃ r, o = some (.long r) ∧ P r m')
abbrev CtV (l : Launch) (M : MTy) (G : Gx) (As : List Value) (mem : Mem) (P : Mem → Prop) : Prop := Ct l M G As mem (fun o m' => o = none ∧ P m')
/-- the judgement inside a method of a contract that answers P -/
abbrev Xm (l : Launch) (M : MTy) (G0 : Gx) (mc ms : Nat) (P : Option Value → Gx → Mem → Prop) (G : Gx) (cells slots : Nat) (mem : Mem) (pc : Nat) (lv : Lv) (st : List Value) : Prop :=
  Xg l M (fun s => Fr G0 s.heap.size) (fun below args s => MQ below (Qm G0 P s.heap.size) args s mc ms (Fr G0 s.heap.size)) (fun _ _ => True) G cells slots mem pc lv st
abbrev XI (l : Launch) (M : MTy) (G : Gx) (P : Int32 → Mem → Prop) (mem : Mem) (pc : Nat) (lv : Lv) (st : List Value) : Prop := Xm l M G 0 0 (fun o G' m' => G' = G ∧ ∃ r, o = some (.int r) ∧ P r m') G 0 0 mem pc lv st
abbrev XL (l : Launch) (M : MTy) (G : Gx) (P : Int64 → Mem → Prop) (mem : Mem) (pc : Nat) (lv : Lv) (st : List Value) : Prop := Xm l M G 0 0 (fun o G' m' => G' = G ∧ ∃ r, o = some (.long r) ∧ P r m') G 0 0 mem pc lv st
abbrev XV (l : Launch) (M : MTy) (G : Gx) (P : Mem → Prop) (mem : Mem) (pc : Nat) (lv : Lv) (st : List Value) : Prop := Xm l M G 0 0 (fun o G' m' => G' = G ∧ o = none ∧ P m') G 0 0 mem pc lv st
theorem Ctg.mono {l : Launch} {M : MTy} {G : Gx} {mc ms : Nat} {As : List Value} {mem : Mem} {P P' : Option Value → Gx → Mem → Prop} (h : Ctg l M G mc ms As mem P) (hp : ∀ o G' m', P o G' m' → P' o G' m') : Ctg l M G mc ms As mem P' := by
  intro sz p e ha hc hk s m args below hf h1 h2 h3
  obtain ⟨k, o, g1, g2, g3, ⟨⟨⟨o1, G', m', e1, e2, e3⟩, e4⟩, e5⟩⟩ := h sz p e ha hc hk s m args below hf h1 h2 h3
  exact ⟨k, o, g1, g2, g3, ⟨⟨⟨o1, G', m', e1, hp _ _ _ e2, e3⟩, e4⟩, e5⟩⟩
/-- from the first instruction to the contract -/
theorem Ctg.of {l : Launch} {M : MTy} {G : Gx} {mc ms : Nat} {As : List Value} {mem : Mem} {P : Option Value → Gx → Mem → Prop} (hy : plainName M.1.cls = true) (hn : (lg_sl As).length ≤ M.2.2.1) {lv : Lv} (hlv : lv_args 0 As = lv)
    (k : Xm l M G mc ms P G 0 0 mem 0 lv []) : Ctg l M G mc ms As mem P := by
  intro sz
  refine Met.ofW (cc := M.2.1) (maxL := M.2.2.1) (ret := M.2.2.2.1) hy rfl ?_
  intro p e s m args below meth c s₁ B hml hv
  obtain ⟨rfl, hsz, hP, hK, hD0⟩ := hv
  have hts := atoms_spec (ws := wsM M) B.pre
  subst hsz
  have hC : Cx M (fun s => Fr G s.heap.size) (fun _ _ => True) G p s m As.toArray meth c :=
    ⟨B.exec, B.bytes, hml, findClass_of_methodNamed B.named, fun w h => hts w (List.mem_cons_of_mem _ h), B.returns, B.notSynchronized, (name_of_methodNamed B.named B.method).1, hK, fun q h => Or.inr h, trivial⟩
  have hl := lv_entry As (n := M.2.2.1) hn
  rw [hlv] at hl
  rw [lg_entry_eq]
  exact k p e s m As.toArray below meth c s.heap [] _ hC hP (hD0.weaken (fun k q hq _ => by obtain ⟨h1, rfl⟩ := wd_mem hq; exact Or.inl ⟨k, h1, rfl⟩)) va_S.rf hl
end
section
/-! a rule an instruction, over Xg -/
section XR
variable {l : Launch} {M : MTy} {A : State → Nat → Prop} {Z : List Frame → Array Value → State → State → Prop} {E : Array Value → State → Prop} {G : Gx} {cells slots : Nat} {mem : Mem} {pc : Nat} {lv lv' : Lv} {st : List Value}
theorem x_iconst {n : Int} {v : Int32} (hdg : decode M.2.1 pc = .ok (.iconst n, 1)) (hv : Int32.ofInt n = v) (kk : Xg l M A Z E G cells slots mem (pc + 1) lv (.int v :: st)) : Xg l M A Z E G cells slots mem pc lv st := by
  intro p e s m args below meth c H locs ls C hP hD hS hL
  exact lv_iconst C.1 C.2.1 hdg hv (kk p e s m args below meth c H locs _ C hP hD hS hL)
theorem x_bipush {n : Int} {v : Int32} (hdg : decode M.2.1 pc = .ok (.bipush n, 2)) (hv : (Int8.ofInt n).toInt32 = v) (kk : Xg l M A Z E G cells slots mem (pc + 2) lv (.int v :: st)) : Xg l M A Z E G cells slots mem pc lv st := by
  intro p e s m args below meth c H locs ls C hP hD hS hL
  exact lv_bipush C.1 C.2.1 hdg hv (kk p e s m args below meth c H locs _ C hP hD hS hL)
theorem x_sipush {n : Int} {v : Int32} (hdg : decode M.2.1 pc = .ok (.sipush n, 3)) (hv : (Int16.ofInt n).toInt32 = v) (kk : Xg l M A Z E G cells slots mem (pc + 3) lv (.int v :: st)) : Xg l M A Z E G cells slots mem pc lv st := by
  intro p e s m args below meth c H locs ls C hP hD hS hL
  exact lv_sipush C.1 C.2.1 hdg hv (kk p e s m args below meth c H locs _ C hP hD hS hL)
theorem x_lconst {n : Fin 2} {v : Int64} (hdg : decode M.2.1 pc = .ok (.lconst n, 1)) (hv : Int64.ofNat (n : Nat) = v) (kk : Xg l M A Z E G cells slots mem (pc + 1) lv (.long v :: st)) : Xg l M A Z E G cells slots mem pc lv st := by
  intro p e s m args below meth c H locs ls C hP hD hS hL
  exact lv_lconst C.1 C.2.1 hdg hv (kk p e s m args below meth c H locs _ C hP hD hS hL)
theorem x_ldc {index : Nat} {v : Int32} (hdg : decode M.2.1 pc = .ok (.ldc index, 2)) (hw : Cond.constant M.1.cls index v ∈ TB) (kk : Xg l M A Z E G cells slots mem (pc + 2) lv (.int v :: st)) : Xg l M A Z E G cells slots mem pc lv st := by
  intro p e s m args below meth c H locs ls C hP hD hS hL
  exact lv_ldc C.1 C.2.1 C.2.2.2.1 (C.2.2.2.2.1 _ hw) hdg (kk p e s m args below meth c H locs _ C hP hD hS hL)
theorem x_ldc2 {index : Nat} {v : Int64} (hdg : decode M.2.1 pc = .ok (.ldc2_w index, 3)) (hw : Cond.constantLong M.1.cls index v ∈ TB) (kk : Xg l M A Z E G cells slots mem (pc + 3) lv (.long v :: st)) : Xg l M A Z E G cells slots mem pc lv st := by
  intro p e s m args below meth c H locs ls C hP hD hS hL
  exact lv_ldc2 C.1 C.2.1 C.2.2.2.1 (C.2.2.2.2.1 _ hw) hdg (kk p e s m args below meth c H locs _ C hP hD hS hL)
theorem x_iload_n {k : Fin 4} {i : Nat} {x : Int32} (hdg : decode M.2.1 pc = .ok (.iload_n k, 1)) (q : Nat) (hl : lv[q]? = some (i, .int x)) (hi : (k : Nat) = i) (kk : Xg l M A Z E G cells slots mem (pc + 1) lv (.int x :: st)) : Xg l M A Z E G cells slots mem pc lv st := by
  intro p e s m args below meth c H locs ls C hP hD hS hL
  exact lv_iload_n C.1 C.2.1 hdg hi (lv_at hL q hl) (kk p e s m args below meth c H locs _ C hP hD hS hL)
theorem x_iload {i : Nat} {x : Int32} (hdg : decode M.2.1 pc = .ok (.iload i, 2)) (q : Nat) (hl : lv[q]? = some (i, .int x)) (kk : Xg l M A Z E G cells slots mem (pc + 2) lv (.int x :: st)) : Xg l M A Z E G cells slots mem pc lv st := by
  intro p e s m args below meth c H locs ls C hP hD hS hL
  exact lv_iload C.1 C.2.1 hdg (lv_at hL q hl) (kk p e s m args below meth c H locs _ C hP hD hS hL)
theorem x_lload_n {k : Fin 4} {i : Nat} {x : Int64} (hdg : decode M.2.1 pc = .ok (.lload_n k, 1)) (q : Nat) (hl : lv[q]? = some (i, .long x)) (hi : (k : Nat) = i) (kk : Xg l M A Z E G cells slots mem (pc + 1) lv (.long x :: st)) : Xg l M A Z E G cells slots mem pc lv st := by
  intro p e s m args below meth c H locs ls C hP hD hS hL
  exact lv_lload_n C.1 C.2.1 hdg hi (lv_at hL q hl) (kk p e s m args below meth c H locs _ C hP hD hS hL)
theorem x_lload {i : Nat} {x : Int64} (hdg : decode M.2.1 pc = .ok (.lload i, 2)) (q : Nat) (hl : lv[q]? = some (i, .long x)) (kk : Xg l M A Z E G cells slots mem (pc + 2) lv (.long x :: st)) : Xg l M A Z E G cells slots mem pc lv st := by
  intro p e s m args below meth c H locs ls C hP hD hS hL
  exact lv_lload C.1 C.2.1 hdg (lv_at hL q hl) (kk p e s m args below meth c H locs _ C hP hD hS hL)
theorem x_aload_n {k : Fin 4} {i : Nat} {x : Nat} (hdg : decode M.2.1 pc = .ok (.aload_n k, 1)) (q : Nat) (hl : lv[q]? = some (i, .ref x)) (hi : (k : Nat) = i) (kk : Xg l M A Z E G cells slots mem (pc + 1) lv (.ref x :: st)) : Xg l M A Z E G cells slots mem pc lv st := by
  intro p e s m args below meth c H locs ls C hP hD hS hL
  exact lv_aload_n C.1 C.2.1 hdg hi (lv_at hL q hl) (kk p e s m args below meth c H locs _ C hP hD hS hL)
theorem x_aload {i : Nat} {x : Nat} (hdg : decode M.2.1 pc = .ok (.aload i, 2)) (q : Nat) (hl : lv[q]? = some (i, .ref x)) (kk : Xg l M A Z E G cells slots mem (pc + 2) lv (.ref x :: st)) : Xg l M A Z E G cells slots mem pc lv st := by
  intro p e s m args below meth c H locs ls C hP hD hS hL
  exact lv_aload C.1 C.2.1 hdg (lv_at hL q hl) (kk p e s m args below meth c H locs _ C hP hD hS hL)
theorem x_istore_n {k : Fin 4} {i : Nat} {x : Int32} (hdg : decode M.2.1 pc = .ok (.istore_n k, 1)) (hi : (k : Nat) = i) (hn : i < M.2.2.1) (hl : (i, Value.int x) :: lv.filter (fun q => !(q.1 == i) && !(q.1 + 1 == i && q.2.category == 2)) = lv') (kk : Xg l M A Z E G cells slots mem (pc + 1) lv' st) : Xg l M A Z E G cells slots mem pc lv (.int x :: st) := by
  intro p e s m args below meth c H locs ls C hP hD hS hL
  exact lv_istore_n C.1 C.2.1 hdg hi hL hn hl (fun ls hL => kk p e s m args below meth c H locs _ C hP hD hS hL)
theorem x_istore {i : Nat} {x : Int32} (hdg : decode M.2.1 pc = .ok (.istore i, 2)) (hn : i < M.2.2.1) (hl : (i, Value.int x) :: lv.filter (fun q => !(q.1 == i) && !(q.1 + 1 == i && q.2.category == 2)) = lv') (kk : Xg l M A Z E G cells slots mem (pc + 2) lv' st) : Xg l M A Z E G cells slots mem pc lv (.int x :: st) := by
  intro p e s m args below meth c H locs ls C hP hD hS hL
  exact lv_istore C.1 C.2.1 hdg hL hn hl (fun ls hL => kk p e s m args below meth c H locs _ C hP hD hS hL)
theorem x_lstore_n {k : Fin 4} {i : Nat} {x : Int64} (hdg : decode M.2.1 pc = .ok (.lstore_n k, 1)) (hi : (k : Nat) = i) (hn : i + 1 < M.2.2.1) (hl : (i, Value.long x) :: lv.filter (fun q => !(q.1 == i) && (!(q.1 == i + 1) && !(q.1 + 1 == i && q.2.category == 2))) = lv') (kk : Xg l M A Z E G cells slots mem (pc + 1) lv' st) : Xg l M A Z E G cells slots mem pc lv (.long x :: st) := by
  intro p e s m args below meth c H locs ls C hP hD hS hL
  exact lv_lstore_n C.1 C.2.1 hdg hi hL hn hl (fun ls hL => kk p e s m args below meth c H locs _ C hP hD hS hL)
theorem x_lstore {i : Nat} {x : Int64} (hdg : decode M.2.1 pc = .ok (.lstore i, 2)) (hn : i + 1 < M.2.2.1) (hl : (i, Value.long x) :: lv.filter (fun q => !(q.1 == i) && (!(q.1 == i + 1) && !(q.1 + 1 == i && q.2.category == 2))) = lv') (kk : Xg l M A Z E G cells slots mem (pc + 2) lv' st) : Xg l M A Z E G cells slots mem pc lv (.long x :: st) := by
  intro p e s m args below meth c H locs ls C hP hD hS hL
  exact lv_lstore C.1 C.2.1 hdg hL hn hl (fun ls hL => kk p e s m args below meth c H locs _ C hP hD hS hL)
theorem x_astore_n {k : Fin 4} {i : Nat} {x : Nat} (hdg : decode M.2.1 pc = .ok (.astore_n k, 1)) (hi : (k : Nat) = i) (hn : i < M.2.2.1) (hl : (i, Value.ref x) :: lv.filter (fun q => !(q.1 == i) && !(q.1 + 1 == i && q.2.category == 2)) = lv') (kk : Xg l M A Z E G cells slots mem (pc + 1) lv' st) : Xg l M A Z E G cells slots mem pc lv (.ref x :: st) := by
  intro p e s m args below meth c H locs ls C hP hD hS hL
  exact lv_astore_n C.1 C.2.1 hdg hi hL hn hl (fun ls hL => kk p e s m args below meth c H locs _ C hP hD hS hL)
theorem x_astore {i : Nat} {x : Nat} (hdg : decode M.2.1 pc = .ok (.astore i, 2)) (hn : i < M.2.2.1) (hl : (i, Value.ref x) :: lv.filter (fun q => !(q.1 == i) && !(q.1 + 1 == i && q.2.category == 2)) = lv') (kk : Xg l M A Z E G cells slots mem (pc + 2) lv' st) : Xg l M A Z E G cells slots mem pc lv (.ref x :: st) := by
  intro p e s m args below meth c H locs ls C hP hD hS hL
  exact lv_astore C.1 C.2.1 hdg hL hn hl (fun ls hL => kk p e s m args below meth c H locs _ C hP hD hS hL)
theorem x_iinc {i k : Nat} {n : Int} {x v : Int32} (hdg : decode M.2.1 pc = .ok (.iinc i n, 3)) (hk : lv[k]? = some (i, .int x)) (hv : x + Int32.ofInt n = v) (hn : i < M.2.2.1) (hl : (i, Value.int v) :: lv.filter (fun q => !(q.1 == i) && !(q.1 + 1 == i && q.2.category == 2)) = lv') (kk : Xg l M A Z E G cells slots mem (pc + 3) lv' st) : Xg l M A Z E G cells slots mem pc lv st := by
  intro p e s m args below meth c H locs ls C hP hD hS hL
  exact lv_iinc C.1 C.2.1 hdg hL hk hv hn hl (fun ls hL => kk p e s m args below meth c H locs _ C hP hD hS hL)
theorem x_iadd {x y : Int32} (hdg : decode M.2.1 pc = .ok (.iadd, 1)) (kk : Xg l M A Z E G cells slots mem (pc + 1) lv (.int (x + y) :: st)) : Xg l M A Z E G cells slots mem pc lv (.int y :: .int x :: st) := by
  intro p e s m args below meth c H locs ls C hP hD hS hL
  exact lv_iadd C.1 C.2.1 hdg (kk p e s m args below meth c H locs _ C hP hD hS hL)
theorem x_isub {x y : Int32} (hdg : decode M.2.1 pc = .ok (.isub, 1)) (kk : Xg l M A Z E G cells slots mem (pc + 1) lv (.int (x - y) :: st)) : Xg l M A Z E G cells slots mem pc lv (.int y :: .int x :: st) := by
  intro p e s m args below meth c H locs ls C hP hD hS hL
  exact lv_isub C.1 C.2.1 hdg (kk p e s m args below meth c H locs _ C hP hD hS hL)
theorem x_imul {x y : Int32} (hdg : decode M.2.1 pc = .ok (.imul, 1)) (kk : Xg l M A Z E G cells slots mem (pc + 1) lv (.int (x * y) :: st)) : Xg l M A Z E G cells slots mem pc lv (.int y :: .int x :: st) := by
  intro p e s m args below meth c H locs ls C hP hD hS hL
  exact lv_imul C.1 C.2.1 hdg (kk p e s m args below meth c H locs _ C hP hD hS hL)
theorem x_iand {x y : Int32} (hdg : decode M.2.1 pc = .ok (.iand, 1)) (kk : Xg l M A Z E G cells slots mem (pc + 1) lv (.int (x &&& y) :: st)) : Xg l M A Z E G cells slots mem pc lv (.int y :: .int x :: st) := by
  intro p e s m args below meth c H locs ls C hP hD hS hL
  exact lv_iand C.1 C.2.1 hdg (kk p e s m args below meth c H locs _ C hP hD hS hL)
theorem x_idiv {x y : Int32} (hdg : decode M.2.1 pc = .ok (.idiv, 1)) (hne : ¬ y = 0) (kk : Xg l M A Z E G cells slots mem (pc + 1) lv (.int (x / y) :: st)) : Xg l M A Z E G cells slots mem pc lv (.int y :: .int x :: st) := by
  intro p e s m args below meth c H locs ls C hP hD hS hL
  exact lv_idiv C.1 C.2.1 hdg hne (kk p e s m args below meth c H locs _ C hP hD hS hL)
theorem x_irem {x y : Int32} (hdg : decode M.2.1 pc = .ok (.irem, 1)) (hne : ¬ y = 0) (kk : Xg l M A Z E G cells slots mem (pc + 1) lv (.int (x - x / y * y) :: st)) : Xg l M A Z E G cells slots mem pc lv (.int y :: .int x :: st) := by
  intro p e s m args below meth c H locs ls C hP hD hS hL
  exact lv_irem C.1 C.2.1 hdg hne (kk p e s m args below meth c H locs _ C hP hD hS hL)
theorem x_ladd {x y : Int64} (hdg : decode M.2.1 pc = .ok (.ladd, 1)) (kk : Xg l M A Z E G cells slots mem (pc + 1) lv (.long (x + y) :: st)) : Xg l M A Z E G cells slots mem pc lv (.long y :: .long x :: st) := by
  intro p e s m args below meth c H locs ls C hP hD hS hL
  exact lv_ladd C.1 C.2.1 hdg (kk p e s m args below meth c H locs _ C hP hD hS hL)
theorem x_lsub {x y : Int64} (hdg : decode M.2.1 pc = .ok (.lsub, 1)) (kk : Xg l M A Z E G cells slots mem (pc + 1) lv (.long (x - y) :: st)) : Xg l M A Z E G cells slots mem pc lv (.long y :: .long x :: st) := by
  intro p e s m args below meth c H locs ls C hP hD hS hL
  exact lv_lsub C.1 C.2.1 hdg (kk p e s m args below meth c H locs _ C hP hD hS hL)
theorem x_lmul {x y : Int64} (hdg : decode M.2.1 pc = .ok (.lmul, 1)) (kk : Xg l M A Z E G cells slots mem (pc + 1) lv (.long (x * y) :: st)) : Xg l M A Z E G cells slots mem pc lv (.long y :: .long x :: st) := by
  intro p e s m args below meth c H locs ls C hP hD hS hL
  exact lv_lmul C.1 C.2.1 hdg (kk p e s m args below meth c H locs _ C hP hD hS hL)
theorem x_land {x y : Int64} (hdg : decode M.2.1 pc = .ok (.land, 1)) (kk : Xg l M A Z E G cells slots mem (pc + 1) lv (.long (x &&& y) :: st)) : Xg l M A Z E G cells slots mem pc lv (.long y :: .long x :: st) := by
  intro p e s m args below meth c H locs ls C hP hD hS hL
  exact lv_land C.1 C.2.1 hdg (kk p e s m args below meth c H locs _ C hP hD hS hL)
theorem x_lor {x y : Int64} (hdg : decode M.2.1 pc = .ok (.lor, 1)) (kk : Xg l M A Z E G cells slots mem (pc + 1) lv (.long (x ||| y) :: st)) : Xg l M A Z E G cells slots mem pc lv (.long y :: .long x :: st) := by
  intro p e s m args below meth c H locs ls C hP hD hS hL
  exact lv_lor C.1 C.2.1 hdg (kk p e s m args below meth c H locs _ C hP hD hS hL)
theorem x_ldiv {x y : Int64} (hdg : decode M.2.1 pc = .ok (.ldiv, 1)) (hne : ¬ y = 0) (kk : Xg l M A Z E G cells slots mem (pc + 1) lv (.long (x / y) :: st)) : Xg l M A Z E G cells slots mem pc lv (.long y :: .long x :: st) := by
  intro p e s m args below meth c H locs ls C hP hD hS hL
  exact lv_ldiv C.1 C.2.1 hdg hne (kk p e s m args below meth c H locs _ C hP hD hS hL)
theorem x_lrem {x y : Int64} (hdg : decode M.2.1 pc = .ok (.lrem, 1)) (hne : ¬ y = 0) (kk : Xg l M A Z E G cells slots mem (pc + 1) lv (.long (x - x / y * y) :: st)) : Xg l M A Z E G cells slots mem pc lv (.long y :: .long x :: st) := by
  intro p e s m args below meth c H locs ls C hP hD hS hL
  exact lv_lrem C.1 C.2.1 hdg hne (kk p e s m args below meth c H locs _ C hP hD hS hL)
theorem x_lushr {x : Int64} {y : Int32} (hdg : decode M.2.1 pc = .ok (.lushr, 1)) (kk : Xg l M A Z E G cells slots mem (pc + 1) lv (.long ((x.toUInt64 >>> (y.toInt64.toUInt64 &&& Int64.toUInt64 63)).toInt64) :: st)) : Xg l M A Z E G cells slots mem pc lv (.int y :: .long x :: st) := by
  intro p e s m args below meth c H locs ls C hP hD hS hL
  exact lv_lushr C.1 C.2.1 hdg rfl (kk p e s m args below meth c H locs _ C hP hD hS hL)
theorem x_lshl {x : Int64} {y : Int32} (hdg : decode M.2.1 pc = .ok (.lshl, 1)) (kk : Xg l M A Z E G cells slots mem (pc + 1) lv (.long (x <<< (y.toInt64 &&& 63)) :: st)) : Xg l M A Z E G cells slots mem pc lv (.int y :: .long x :: st) := by
  intro p e s m args below meth c H locs ls C hP hD hS hL
  exact lv_lshl C.1 C.2.1 hdg rfl (kk p e s m args below meth c H locs _ C hP hD hS hL)
theorem x_i2l {x : Int32} (hdg : decode M.2.1 pc = .ok (.i2l, 1)) (kk : Xg l M A Z E G cells slots mem (pc + 1) lv (.long x.toInt64 :: st)) : Xg l M A Z E G cells slots mem pc lv (.int x :: st) := by
  intro p e s m args below meth c H locs ls C hP hD hS hL
  exact lv_i2l C.1 C.2.1 hdg rfl (kk p e s m args below meth c H locs _ C hP hD hS hL)
theorem x_l2i {x : Int64} (hdg : decode M.2.1 pc = .ok (.l2i, 1)) (kk : Xg l M A Z E G cells slots mem (pc + 1) lv (.int x.toInt32 :: st)) : Xg l M A Z E G cells slots mem pc lv (.long x :: st) := by
  intro p e s m args below meth c H locs ls C hP hD hS hL
  exact lv_l2i C.1 C.2.1 hdg rfl (kk p e s m args below meth c H locs _ C hP hD hS hL)
theorem x_lcmp {x y : Int64} (hdg : decode M.2.1 pc = .ok (.lcmp, 1)) (kk : Xg l M A Z E G cells slots mem (pc + 1) lv (.int (lg_cmp x y) :: st)) : Xg l M A Z E G cells slots mem pc lv (.long y :: .long x :: st) := by
  intro p e s m args below meth c H locs ls C hP hD hS hL
  exact W.lcmp C.1 C.2.1 hdg (kk p e s m args below meth c H locs _ C hP hD hS hL)
theorem x_dup {v : Value} (hdg : decode M.2.1 pc = .ok (.dup, 1)) (hv : v.category = 1) (kk : Xg l M A Z E G cells slots mem (pc + 1) lv (v :: v :: st)) : Xg l M A Z E G cells slots mem pc lv (v :: st) := by
  intro p e s m args below meth c H locs ls C hP hD hS hL
  exact lv_dup C.1 C.2.1 hdg hv (kk p e s m args below meth c H locs _ C hP hD hS hL)
theorem x_goto {off : Int} {tgt : Nat} (hdg : decode M.2.1 pc = .ok (.goto off, 3)) (ht : (pc : Int) + off = (tgt : Int)) (kk : Xg l M A Z E G cells slots mem tgt lv st) : Xg l M A Z E G cells slots mem pc lv st := by
  intro p e s m args below meth c H locs ls C hP hD hS hL
  exact lv_goto C.1 C.2.1 hdg ht (kk p e s m args below meth c H locs _ C hP hD hS hL)
theorem x_if_eq {x : Int32} {off : Int} {tgt : Nat} (hdg : decode M.2.1 pc = .ok (.ifCond .eq off, 3)) (ht : (pc : Int) + off = (tgt : Int)) (kt : x = 0 → Xg l M A Z E G cells slots mem tgt lv st) (kf : ¬ x = 0 → Xg l M A Z E G cells slots mem (pc + 3) lv st) : Xg l M A Z E G cells slots mem pc lv (.int x :: st) := by
  intro p e s m args below meth c H locs ls C hP hD hS hL
  exact lv_if_eq C.1 C.2.1 hdg ht (fun h => kt h p e s m args below meth c H locs _ C hP hD hS hL) (fun h => kf h p e s m args below meth c H locs _ C hP hD hS hL)
theorem x_icmp_eq {x y : Int32} {off : Int} {tgt : Nat} (hdg : decode M.2.1 pc = .ok (.if_icmp .eq off, 3)) (ht : (pc : Int) + off = (tgt : Int)) (kt : x = y → Xg l M A Z E G cells slots mem tgt lv st) (kf : ¬ x = y → Xg l M A Z E G cells slots mem (pc + 3) lv st) : Xg l M A Z E G cells slots mem pc lv (.int y :: .int x :: st) := by
  intro p e s m args below meth c H locs ls C hP hD hS hL
  exact lv_icmp_eq C.1 C.2.1 hdg ht (fun h => kt h p e s m args below meth c H locs _ C hP hD hS hL) (fun h => kf h p e s m args below meth c H locs _ C hP hD hS hL)
theorem x_if_ne {x : Int32} {off : Int} {tgt : Nat} (hdg : decode M.2.1 pc = .ok (.ifCond .ne off, 3)) (ht : (pc : Int) + off = (tgt : Int)) (kt : ¬ x = 0 → Xg l M A Z E G cells slots mem tgt lv st) (kf : x = 0 → Xg l M A Z E G cells slots mem (pc + 3) lv st) : Xg l M A Z E G cells slots mem pc lv (.int x :: st) := by
  intro p e s m args below meth c H locs ls C hP hD hS hL
  exact lv_if_ne C.1 C.2.1 hdg ht (fun h => kt h p e s m args below meth c H locs _ C hP hD hS hL) (fun h => kf h p e s m args below meth c H locs _ C hP hD hS hL)
theorem x_icmp_ne {x y : Int32} {off : Int} {tgt : Nat} (hdg : decode M.2.1 pc = .ok (.if_icmp .ne off, 3)) (ht : (pc : Int) + off = (tgt : Int)) (kt : ¬ x = y → Xg l M A Z E G cells slots mem tgt lv st) (kf : x = y → Xg l M A Z E G cells slots mem (pc + 3) lv st) : Xg l M A Z E G cells slots mem pc lv (.int y :: .int x :: st) := by
  intro p e s m args below meth c H locs ls C hP hD hS hL
  exact lv_icmp_ne C.1 C.2.1 hdg ht (fun h => kt h p e s m args below meth c H locs _ C hP hD hS hL) (fun h => kf h p e s m args below meth c H locs _ C hP hD hS hL)
theorem x_if_lt {x : Int32} {off : Int} {tgt : Nat} (hdg : decode M.2.1 pc = .ok (.ifCond .lt off, 3)) (ht : (pc : Int) + off = (tgt : Int)) (kt : x < 0 → Xg l M A Z E G cells slots mem tgt lv st) (kf : ¬ x < 0 → Xg l M A Z E G cells slots mem (pc + 3) lv st) : Xg l M A Z E G cells slots mem pc lv (.int x :: st) := by
  intro p e s m args below meth c H locs ls C hP hD hS hL
  exact lv_if_lt C.1 C.2.1 hdg ht (fun h => kt h p e s m args below meth c H locs _ C hP hD hS hL) (fun h => kf h p e s m args below meth c H locs _ C hP hD hS hL)
theorem x_icmp_lt {x y : Int32} {off : Int} {tgt : Nat} (hdg : decode M.2.1 pc = .ok (.if_icmp .lt off, 3)) (ht : (pc : Int) + off = (tgt : Int)) (kt : x < y → Xg l M A Z E G cells slots mem tgt lv st) (kf : ¬ x < y → Xg l M A Z E G cells slots mem (pc + 3) lv st) : Xg l M A Z E G cells slots mem pc lv (.int y :: .int x :: st) := by
  intro p e s m args below meth c H locs ls C hP hD hS hL
  exact lv_icmp_lt C.1 C.2.1 hdg ht (fun h => kt h p e s m args below meth c H locs _ C hP hD hS hL) (fun h => kf h p e s m args below meth c H locs _ C hP hD hS hL)
theorem x_if_ge {x : Int32} {off : Int} {tgt : Nat} (hdg : decode M.2.1 pc = .ok (.ifCond .ge off, 3)) (ht : (pc : Int) + off = (tgt : Int)) (kt : 0 ≤ x → Xg l M A Z E G cells slots mem tgt lv st) (kf : ¬ 0 ≤ x → Xg l M A Z E G cells slots mem (pc + 3) lv st) : Xg l M A Z E G cells slots mem pc lv (.int x :: st) := by
  intro p e s m args below meth c H locs ls C hP hD hS hL
  exact lv_if_ge C.1 C.2.1 hdg ht (fun h => kt h p e s m args below meth c H locs _ C hP hD hS hL) (fun h => kf h p e s m args below meth c H locs _ C hP hD hS hL)
theorem x_icmp_ge {x y : Int32} {off : Int} {tgt : Nat} (hdg : decode M.2.1 pc = .ok (.if_icmp .ge off, 3)) (ht : (pc : Int) + off = (tgt : Int)) (kt : y ≤ x → Xg l M A Z E G cells slots mem tgt lv st) (kf : ¬ y ≤ x → Xg l M A Z E G cells slots mem (pc + 3) lv st) : Xg l M A Z E G cells slots mem pc lv (.int y :: .int x :: st) := by
  intro p e s m args below meth c H locs ls C hP hD hS hL
  exact lv_icmp_ge C.1 C.2.1 hdg ht (fun h => kt h p e s m args below meth c H locs _ C hP hD hS hL) (fun h => kf h p e s m args below meth c H locs _ C hP hD hS hL)
theorem x_if_gt {x : Int32} {off : Int} {tgt : Nat} (hdg : decode M.2.1 pc = .ok (.ifCond .gt off, 3)) (ht : (pc : Int) + off = (tgt : Int)) (kt : 0 < x → Xg l M A Z E G cells slots mem tgt lv st) (kf : ¬ 0 < x → Xg l M A Z E G cells slots mem (pc + 3) lv st) : Xg l M A Z E G cells slots mem pc lv (.int x :: st) := by
  intro p e s m args below meth c H locs ls C hP hD hS hL
  exact lv_if_gt C.1 C.2.1 hdg ht (fun h => kt h p e s m args below meth c H locs _ C hP hD hS hL) (fun h => kf h p e s m args below meth c H locs _ C hP hD hS hL)
theorem x_icmp_gt {x y : Int32} {off : Int} {tgt : Nat} (hdg : decode M.2.1 pc = .ok (.if_icmp .gt off, 3)) (ht : (pc : Int) + off = (tgt : Int)) (kt : y < x → Xg l M A Z E G cells slots mem tgt lv st) (kf : ¬ y < x → Xg l M A Z E G cells slots mem (pc + 3) lv st) : Xg l M A Z E G cells slots mem pc lv (.int y :: .int x :: st) := by
  intro p e s m args below meth c H locs ls C hP hD hS hL
  exact lv_icmp_gt C.1 C.2.1 hdg ht (fun h => kt h p e s m args below meth c H locs _ C hP hD hS hL) (fun h => kf h p e s m args below meth c H locs _ C hP hD hS hL)
theorem x_if_le {x : Int32} {off : Int} {tgt : Nat} (hdg : decode M.2.1 pc = .ok (.ifCond .le off, 3)) (ht : (pc : Int) + off = (tgt : Int)) (kt : x ≤ 0 → Xg l M A Z E G cells slots mem tgt lv st) (kf : ¬ x ≤ 0 → Xg l M A Z E G cells slots mem (pc + 3) lv st) : Xg l M A Z E G cells slots mem pc lv (.int x :: st) := by
  intro p e s m args below meth c H locs ls C hP hD hS hL
  exact lv_if_le C.1 C.2.1 hdg ht (fun h => kt h p e s m args below meth c H locs _ C hP hD hS hL) (fun h => kf h p e s m args below meth c H locs _ C hP hD hS hL)
theorem x_icmp_le {x y : Int32} {off : Int} {tgt : Nat} (hdg : decode M.2.1 pc = .ok (.if_icmp .le off, 3)) (ht : (pc : Int) + off = (tgt : Int)) (kt : x ≤ y → Xg l M A Z E G cells slots mem tgt lv st) (kf : ¬ x ≤ y → Xg l M A Z E G cells slots mem (pc + 3) lv st) : Xg l M A Z E G cells slots mem pc lv (.int y :: .int x :: st) := by
  intro p e s m args below meth c H locs ls C hP hD hS hL
  exact lv_icmp_le C.1 C.2.1 hdg ht (fun h => kt h p e s m args below meth c H locs _ C hP hD hS hL) (fun h => kf h p e s m args below meth c H locs _ C hP hD hS hL)
theorem x_tableIn {dflt lo hi : Int} {offs : Array Int} {len : Nat} {x : Int32} {off : Int} {tgt : Nat} (hdg : decode M.2.1 pc = .ok (.tableswitch dflt lo hi offs, len)) (h1 : ¬ x.toInt < lo) (h2 : ¬ hi < x.toInt) (ho : offs[(x.toInt - lo).toNat]? = some off) (ht : (pc : Int) + off = (tgt : Int)) (kk : Xg l M A Z E G cells slots mem tgt lv st) : Xg l M A Z E G cells slots mem pc lv (.int x :: st) := by
  intro p e s m args below meth c H locs ls C hP hD hS hL
  exact lv_tableIn C.1 C.2.1 hdg h1 h2 ho ht (kk p e s m args below meth c H locs _ C hP hD hS hL)
theorem x_tableOut {dflt lo hi : Int} {offs : Array Int} {len : Nat} {x : Int32} {tgt : Nat} (hdg : decode M.2.1 pc = .ok (.tableswitch dflt lo hi offs, len)) (h : x.toInt < lo ∨ hi < x.toInt) (ht : (pc : Int) + dflt = (tgt : Int)) (kk : Xg l M A Z E G cells slots mem tgt lv st) : Xg l M A Z E G cells slots mem pc lv (.int x :: st) := by
  intro p e s m args below meth c H locs ls C hP hD hS hL
  exact lv_tableOut C.1 C.2.1 hdg h ht (kk p e s m args below meth c H locs _ C hP hD hS hL)
/-- fewer locals, in another order, by their places -/
theorem x_sub (ks : List Nat) (hl : lv_pick lv ks = lv') (kk : Xg l M A Z E G cells slots mem pc lv' st) : Xg l M A Z E G cells slots mem pc lv st := by
  intro p e s m args below meth c H locs ls C hP hD hS hL
  exact kk p e s m args below meth c H locs _ C hP hD hS (lv_sub hL ks hl)
/-- the same frame, written otherwise -/
theorem x_eq {pc2 : Nat} {st2 : List Value} (h : pc = pc2) (h2 : lv = lv') (h3 : st = st2) (kk : Xg l M A Z E G cells slots mem pc2 lv' st2) : Xg l M A Z E G cells slots mem pc lv st := by
  subst h; subst h2; subst h3; exact kk
theorem x_mem {mem2 : Mem} (h : mem = mem2) (kk : Xg l M A Z E G cells slots mem2 pc lv st) : Xg l M A Z E G cells slots mem pc lv st := by
  subst h; exact kk
theorem x_get {index ci N : Nat} {C0 ref : String} {T : u_T} (j k : Nat) {fs : List Value} {v : Value} (hdg : decode M.2.1 pc = .ok (.getfield index, 3)) (hj : j < gK G) (hc : cellR G j (mem j) = .inr (ci, fs)) (hcl : vwCl[ci]? = some (C0, T, N)) (hin : ∀ w ∈ u_ws C0 T N, w ∈ TB) (hk : k < N) (hw : Cond.fieldLink M.1.cls index ref (T k).2.1 (T k).2.2.1 ∈ TB) (hsame : (T k).1 = ref) (hv : fs[k]? = some v) (kk : Xg l M A Z E G cells slots mem (pc + 3) lv (v :: st)) : Xg l M A Z E G cells slots mem pc lv (.ref (gA G j) :: st) := by
  intro p e s m args below meth c H locs ls C hP hD hS hL
  exact va_get C.1 C.2.1 C.2.2.2.2.1 hin C.2.2.2.1 C.2.2.2.2.2.2.2.2.1.1 hP j (by rw [wd_at hj, ← hc]) hcl k hk (C.2.2.2.2.1 _ hw) (fun x h => by rw [hsame] at h; exact h) hv hdg (kk p e s m args below meth c H locs _ C hP hD hS hL)
/-- an int field is written -/
theorem x_put {index ci N : Nat} {C0 ref : String} {T : u_T} (j k : Nat) {fs : (Nat → Int32) → List Value} {v : Int32} (hdg : decode M.2.1 pc = .ok (.putfield index, 3)) (hj : j < gK G) (hc : ∀ r, cellR G j r = .inr (ci, fs r)) (hcl : vwCl[ci]? = some (C0, T, N)) (hin : ∀ w ∈ u_ws C0 T N, w ∈ TB) (ty0 : Nat → FieldType) (hty : ∀ k, k < N → parseFieldDescriptor (T k).2.2.1 = some (ty0 k)) (hnm : ∀ a, a < N → ∀ b, b < N → a ≠ b → (T a).2.1 ≠ (T b).2.1) (hk : k < N) (hw : Cond.fieldLink M.1.cls index ref (T k).2.1 (T k).2.2.1 ∈ TB) (hsame : (T k).1 = ref) (hfin : (T k).2.2.2 = false) (hd : parseFieldDescriptor (T k).2.2.1 = some .int) (hl : k < (fs (mem j)).length) (hset : (fs (mem j)).set k (.int v) = fs (upd (mem j) k v)) (kk : Xg l M A Z E G cells slots (wr mem j k v) (pc + 3) lv st) : Xg l M A Z E G cells slots mem pc lv (.int v :: .ref (gA G j) :: st) := by
  intro p e s m args below meth c H locs ls C hP hD hS hL
  have hset' : (wd (gK G) (gA G) (cellOf G mem)).set j (gA G j, .inr (ci, (fs (mem j)).set k (.int v))) = wd (gK G) (gA G) (cellOf G (wr mem j k v)) :=
    wd_set hj (by show cellR G j (wr mem j k v j) = _; rw [hc, hset]; simp [wr, wrA]) (fun i hi => by show cellR G i (wr mem j k v i) = _; simp [wr, wrA, hi])
  exact va_put C.1 C.2.1 C.2.2.2.2.1 hin ty0 hty hnm C.2.2.2.1 C.2.2.2.2.2.2.2.2.1.1 hP hD hS j (by rw [wd_at hj]; exact congrArg (fun z => some (gA G j, z)) (hc _)) hcl k hk (C.2.2.2.2.1 _ hw) (fun x h => by rw [hsame] at h; exact h) hfin hd rfl rfl hl hdg (fun H1 locs1 hP1 hD1 hS1 => kk p e s m args below meth c H1 locs1 _ C (by rw [← hset']; exact hP1) (by rw [← hset']; exact hD1) hS1 hL)
theorem x_iald {n : Nat} {i : Int32} (j : Nat) (hdg : decode M.2.1 pc = .ok (.iaload, 1)) (hj : j < gK G) (hc : cellR G j (mem j) = rI (gC G) n (mem j)) (hin : vp_in i n) (kk : Xg l M A Z E G cells slots mem (pc + 1) lv (.int (mem j i.toNatClampNeg) :: st)) : Xg l M A Z E G cells slots mem pc lv (.int i :: .ref (gA G j) :: st) := by
  intro p e s m args below meth c H locs ls C hP hD hS hL
  exact va_iald C.1 C.2.1 C.2.2.2.2.2.2.2.2.1.1 hP j 0 (cA := (gC G).1) (n := n) (f := mem j) (by rw [wd_at hj]; exact congrArg (fun z => some (gA G j, z)) hc) rfl hin hdg (kk p e s m args below meth c H locs _ C hP hD hS hL)
theorem x_zald {n : Nat} {i : Int32} (j : Nat) (hdg : decode M.2.1 pc = .ok (.baload, 1)) (hj : j < gK G) (hc : cellR G j (mem j) = rZ (gC G) n (mem j)) (hin : vp_in i n) (kk : Xg l M A Z E G cells slots mem (pc + 1) lv (.int (mem j i.toNatClampNeg) :: st)) : Xg l M A Z E G cells slots mem pc lv (.int i :: .ref (gA G j) :: st) := by
  intro p e s m args below meth c H locs ls C hP hD hS hL
  exact va_zald C.1 C.2.1 C.2.2.2.2.2.2.2.2.1.1 hP j 1 (cA := (gC G).2.1) (n := n) (f := mem j) (by rw [wd_at hj]; exact congrArg (fun z => some (gA G j, z)) hc) rfl hin hdg (kk p e s m args below meth c H locs _ C hP hD hS hL)
theorem x_iast {n : Nat} {i v : Int32} (j : Nat) (hdg : decode M.2.1 pc = .ok (.iastore, 1)) (hj : j < gK G) (hc : ∀ r, cellR G j r = rI (gC G) n r) (hin : vp_in i n) (kk : Xg l M A Z E G cells slots (wr mem j i.toNatClampNeg v) (pc + 1) lv st) : Xg l M A Z E G cells slots mem pc lv (.int v :: .int i :: .ref (gA G j) :: st) := by
  intro p e s m args below meth c H locs ls C hP hD hS hL
  have hset' : (wd (gK G) (gA G) (cellOf G mem)).set j (gA G j, .inl ((gC G).1, n, .inl (upd (mem j) i.toNatClampNeg v))) = wd (gK G) (gA G) (cellOf G (wr mem j i.toNatClampNeg v)) :=
    wd_set hj (by show cellR G j (wr mem j _ v j) = _; rw [hc]; simp [wr, wrA, rI]) (fun q hq => by show cellR G q (wr mem j _ v q) = _; simp [wr, wrA, hq])
  exact va_iast C.1 C.2.1 C.2.2.2.2.2.2.2.2.1.1 hP hD hS j 0 (cA := (gC G).1) (n := n) (f := mem j) (by rw [wd_at hj]; exact congrArg (fun z => some (gA G j, z)) (hc _)) rfl hin hdg (fun H1 locs1 hP1 hD1 hS1 => kk p e s m args below meth c H1 locs1 _ C (by rw [← hset']; exact hP1) (by rw [← hset']; exact hD1) hS1 hL)
theorem x_zast {n : Nat} {i v : Int32} (j : Nat) (hdg : decode M.2.1 pc = .ok (.bastore, 1)) (hj : j < gK G) (hc : ∀ r, cellR G j r = rZ (gC G) n r) (hin : vp_in i n) (hv : v = 0 ∨ v = 1) (kk : Xg l M A Z E G cells slots (wr mem j i.toNatClampNeg v) (pc + 1) lv st) : Xg l M A Z E G cells slots mem pc lv (.int v :: .int i :: .ref (gA G j) :: st) := by
  intro p e s m args below meth c H locs ls C hP hD hS hL
  have hn : vp_nar .boolean v = v := by rcases hv with rfl | rfl <;> rfl
  have hset' : (wd (gK G) (gA G) (cellOf G mem)).set j (gA G j, .inl ((gC G).2.1, n, .inl (upd (mem j) i.toNatClampNeg v))) = wd (gK G) (gA G) (cellOf G (wr mem j i.toNatClampNeg v)) :=
    wd_set hj (by show cellR G j (wr mem j _ v j) = _; rw [hc]; simp [wr, wrA, rZ]) (fun q hq => by show cellR G q (wr mem j _ v q) = _; simp [wr, wrA, hq])
  exact va_zast C.1 C.2.1 C.2.2.2.2.2.2.2.2.1.1 hP hD hS j 1 (cA := (gC G).2.1) (n := n) (f := mem j) (by rw [wd_at hj]; exact congrArg (fun z => some (gA G j, z)) (hc _)) rfl hin hdg (fun H1 locs1 hP1 hD1 hS1 => kk p e s m args below meth c H1 locs1 _ C (by rw [← hset', ← hn]; exact hP1) (by rw [← hset', ← hn]; exact hD1) hS1 hL)
theorem x_aaldR {n : Nat} {i : Int32} {f : Nat → Option Nat} {v : Nat} (j : Nat) (hdg : decode M.2.1 pc = .ok (.aaload, 1)) (hj : j < gK G) (hc : cellR G j (mem j) = rR (gC G) n f) (hin : vp_in i n) (hv : f i.toNatClampNeg = some v) (kk : Xg l M A Z E G cells slots mem (pc + 1) lv (.ref v :: st)) : Xg l M A Z E G cells slots mem pc lv (.int i :: .ref (gA G j) :: st) := by
  intro p e s m args below meth c H locs ls C hP hD hS hL
  have hlt : i.toNatClampNeg < n := Nat.not_le.mp fun q => hin (Or.inr q)
  have hcell := hP j _ (wd_at hj)
  rw [show cellOf G mem j = rR (gC G) n f from hc] at hcell
  refine W.aald (v := .ref v) (ty := .array .int) C.1 C.2.1 hcell ((C.2.2.2.2.2.2.2.2.1.1.2 3 _ rfl).1 n (fun j => va_rf (f j))) rfl (fun q => by cases q) (by show ¬ (i < 0 ∨ (arrV _ _ _).slots.size ≤ _); rw [arrV_size]; exact hin) (by show (arrV _ _ _).slots[_]? = _; rw [arrV_read _ _ hlt, hv]; rfl) rfl rfl hdg (kk p e s m args below meth c H locs _ C hP hD hS hL)
theorem x_aaldF {n : Nat} {i : Int32} {f : Nat → Option Nat} {v : Nat} (j : Nat) (hdg : decode M.2.1 pc = .ok (.aaload, 1)) (hj : j < gK G) (hc : cellR G j (mem j) = rF (gC G) n f) (hin : vp_in i n) (hv : f i.toNatClampNeg = some v) (kk : Xg l M A Z E G cells slots mem (pc + 1) lv (.ref v :: st)) : Xg l M A Z E G cells slots mem pc lv (.int i :: .ref (gA G j) :: st) := by
  intro p e s m args below meth c H locs ls C hP hD hS hL
  have hlt : i.toNatClampNeg < n := Nat.not_le.mp fun q => hin (Or.inr q)
  have hcell := hP j _ (wd_at hj)
  rw [show cellOf G mem j = rF (gC G) n f from hc] at hcell
  refine W.aald (v := .ref v) (ty := .object RX1) C.1 C.2.1 hcell ((C.2.2.2.2.2.2.2.2.1.1.2 2 _ rfl).1 n (fun j => va_rf (f j))) rfl (fun q => by cases q) (by show ¬ (i < 0 ∨ (arrV _ _ _).slots.size ≤ _); rw [arrV_size]; exact hin) (by show (arrV _ _ _).slots[_]? = _; rw [arrV_read _ _ hlt, hv]; rfl) rfl rfl hdg (kk p e s m args below meth c H locs _ C hP hD hS hL)
theorem x_alen {n : Nat} {v : Int32} (j : Nat) (hdg : decode M.2.1 pc = .ok (.arraylength, 1)) (hj : j < gK G) (hc : cellR G j (mem j) = rI (gC G) n (mem j)) (hv : Int32.ofNat n = v) (kk : Xg l M A Z E G cells slots mem (pc + 1) lv (.int v :: st)) : Xg l M A Z E G cells slots mem pc lv (.ref (gA G j) :: st) := by
  intro p e s m args below meth c H locs ls C hP hD hS hL
  exact va_alen C.1 C.2.1 C.2.2.2.2.2.2.2.2.1.1 hP j 0 (cA := (gC G).1) (x := (n, .inl (mem j))) (by rw [wd_at hj]; exact congrArg (fun z => some (gA G j, z)) hc) rfl hv hdg (kk p e s m args below meth c H locs _ C hP hD hS hL)
theorem x_mmax {index : Nat} {x y : Int32} (hdg : decode M.2.1 pc = .ok (.invokestatic index, 3)) (hw : Cond.methodLink M.1.cls index Lib.Math.max.name ∈ TB) (h2 : Cond.static Lib.Math.max.name ∈ TB) (h3 : Cond.initialized "java/lang/Math" ∈ TB) (h4 : Cond.code Lib.Math.max.name Lib.Math.max.code 2 (some .int) ∈ TB) (hR : 1 ≤ M.2.2.2.2.frames ∧ (st.map fun v => v.category).sum + 13 ≤ M.2.2.2.2.locals ∧ cells ≤ M.2.2.2.2.cells ∧ slots ≤ M.2.2.2.2.slots) (kk : Xg l M A Z E G cells slots mem (pc + 3) lv (.int (if x < y then y else x) :: st)) : Xg l M A Z E G cells slots mem pc lv (.int y :: .int x :: st) := by
  intro p e s m args below meth c H locs ls C hP hD hS hL
  exact va_mmax C.1 C.2.1 (C.2.2.1.trans hL.1.symm) C.2.2.2.1 (C.2.2.2.2.1 _ hw) (C.2.2.2.2.1 _ h2) (C.2.2.2.2.1 _ h3) (C.2.2.2.2.1 _ h4) hR.1 hR.2.1 hR.2.2.1 hR.2.2.2 hdg (kk p e s m args below meth c H locs _ C hP hD hS hL)
theorem x_mmin {index : Nat} {x y : Int32} (hdg : decode M.2.1 pc = .ok (.invokestatic index, 3)) (hw : Cond.methodLink M.1.cls index Lib.Math.min.name ∈ TB) (h2 : Cond.static Lib.Math.min.name ∈ TB) (h3 : Cond.initialized "java/lang/Math" ∈ TB) (h4 : Cond.code Lib.Math.min.name Lib.Math.min.code 2 (some .int) ∈ TB) (hR : 1 ≤ M.2.2.2.2.frames ∧ (st.map fun v => v.category).sum + 13 ≤ M.2.2.2.2.locals ∧ cells ≤ M.2.2.2.2.cells ∧ slots ≤ M.2.2.2.2.slots) (kk : Xg l M A Z E G cells slots mem (pc + 3) lv (.int (if y < x then y else x) :: st)) : Xg l M A Z E G cells slots mem pc lv (.int y :: .int x :: st) := by
  intro p e s m args below meth c H locs ls C hP hD hS hL
  exact va_mmin C.1 C.2.1 (C.2.2.1.trans hL.1.symm) C.2.2.2.1 (C.2.2.2.2.1 _ hw) (C.2.2.2.2.1 _ h2) (C.2.2.2.2.1 _ h3) (C.2.2.2.2.1 _ h4) hR.1 hR.2.1 hR.2.2.1 hR.2.2.2 hdg (kk p e s m args below meth c H locs _ C hP hD hS hL)
theorem x_copy {index : Nat} {n0 n1 : Nat} {sp dp n : Int32} (j0 j1 : Nat) (hdg : decode M.2.1 pc = .ok (.invokestatic index, 3)) (hw : Cond.methodLink M.1.cls index arraycopyName ∈ TB) (h2 : Cond.native arraycopyName ∈ TB) (h3 : Cond.static arraycopyName ∈ TB) (h4 : Cond.initialized "java/lang/System" ∈ TB) (hj0 : j0 < gK G) (hj1 : j1 < gK G) (hc0 : cellR G j0 (mem j0) = rI (gC G) n0 (mem j0)) (hc1 : ∀ r, cellR G j1 r = rI (gC G) n1 r) (hb : ¬ sp < 0 ∧ ¬ dp < 0 ∧ ¬ n < 0 ∧ sp.toNatClampNeg + n.toNatClampNeg ≤ n0 ∧ dp.toNatClampNeg + n.toNatClampNeg ≤ n1) (hR : 1 ≤ M.2.2.2.2.frames ∧ (st.map fun v => v.category).sum + (nativeFrameWords "java/lang/System" "arraycopy" 5 + 11) ≤ M.2.2.2.2.locals) (kk : Xg l M A Z E G cells slots (wrA mem j1 (va_cpy (mem j0) (mem j1) sp.toNatClampNeg dp.toNatClampNeg n.toNatClampNeg)) (pc + 3) lv st) : Xg l M A Z E G cells slots mem pc lv (.int n :: .int dp :: .ref (gA G j1) :: .int sp :: .ref (gA G j0) :: st) := by
  intro p e s m args below meth c H locs ls C hP hD hS hL
  have hset' : (wd (gK G) (gA G) (cellOf G mem)).set j1 (gA G j1, .inl ((gC G).1, n1, .inl (va_cpy (mem j0) (mem j1) sp.toNatClampNeg dp.toNatClampNeg n.toNatClampNeg))) = wd (gK G) (gA G) (cellOf G (wrA mem j1 (va_cpy (mem j0) (mem j1) sp.toNatClampNeg dp.toNatClampNeg n.toNatClampNeg))) :=
    wd_set hj1 (by show cellR G j1 (wrA mem j1 _ j1) = _; rw [hc1]; simp [wrA, rI]) (fun q hq => by show cellR G q (wrA mem j1 _ q) = _; simp [wrA, hq])
  exact va_copyi C.1 C.2.1 (C.2.2.1.trans hL.1.symm) C.2.2.2.1 (C.2.2.2.2.1 _ hw) (C.2.2.2.2.1 _ h2) (C.2.2.2.2.1 _ h3) (C.2.2.2.2.1 _ h4) C.2.2.2.2.2.2.2.2.1.1 hP hD hS j0 j1 0 0 (c0 := (gC G).1) (c1 := (gC G).1) (n0 := n0) (n1 := n1) (f := mem j0) (g := mem j1) (ty := .int) (by rw [wd_at hj0]; exact congrArg (fun z => some (gA G j0, z)) hc0) (by rw [wd_at hj1]; exact congrArg (fun z => some (gA G j1, z)) (hc1 _)) rfl rfl rfl hb.1 hb.2.1 hb.2.2.1 hb.2.2.2.1 hb.2.2.2.2 (fun i _ => rfl) hR.1 hR.2 hdg (fun H1 locs1 hP1 hD1 hS1 => kk p e s m args below meth c H1 locs1 _ C (by rw [← hset']; exact hP1) (by rw [← hset']; exact hD1) hS1 hL)
end XR
end
section
/-! calls and returns -/
theorem Fr_sub {G : Gx} {A : Nat → Prop} {ct : Nat → va_E} {H0 H : Heap} {locs : List Loc} (hD : va_D A (wd (gK G) (gA G) ct)) (hS : va_S A H0 H locs) (hA : ∀ q, H0.size ≤ q → A q) : ∀ q, Fr G H.size q → A q := by
  intro q h
  rcases h with ⟨i, hi, rfl⟩ | h
  · exact hD.2 i _ (wd_at hi)
  · exact hA q (Nat.le_trans hS.1 h)
theorem Pm_blind {G : Gx} {mem : Mem} {sz : Nat} {As : List Value} : FrameBlind (va_Pc As (Pm G mem sz)) := by
  intro a U g mk q
  obtain ⟨q0, q1, qP, qK, qD⟩ := q
  exact ⟨q0, q1, qP, Kx.moved (u := U) (U := U.calling g mk a) (Vm.Alike.refl U.vm) qK, qD⟩
theorem gI_TB {Mc : MTy} (w5 : Cond.code Mc.1 Mc.2.1 Mc.2.2.1 Mc.2.2.2.1 ∈ TB) : GoodIn TB (wsM Mc) := by
  intro w h
  rcases List.mem_cons.mp h with rfl | h
  · exact ⟨w5, TB_good w5⟩
  · exact ⟨h, TB_good h⟩
/-- what the tables say of a method that is called on an object -/
def OkV (Mc : MTy) (C0 : String) (n : Nat) : Prop :=
  Cond.instanceMethod Mc.1 ∈ TB ∧ Cond.selects C0 Mc.1 Mc.1 ∈ TB ∧ Cond.initialized C0 ∈ TB ∧ Cond.code Mc.1 Mc.2.1 Mc.2.2.1 Mc.2.2.2.1 ∈ TB ∧ Mc.1.cls = C0 ∧ Mc.1.cls ≠ "java/lang/invoke/MethodHandle" ∧ Mc.1.cls ≠ "java/lang/invoke/VarHandle" ∧ (parseMethodDescriptor Mc.1.desc).map (fun d => d.parameters.length) = some n
def OkS (Mc : MTy) (n : Nat) : Prop :=
  Cond.static Mc.1 ∈ TB ∧ Cond.initialized Mc.1.cls ∈ TB ∧ Cond.code Mc.1 Mc.2.1 Mc.2.2.1 Mc.2.2.2.1 ∈ TB ∧ Mc.1.cls ≠ "java/lang/invoke/MethodHandle" ∧ Mc.1.cls ≠ "java/lang/invoke/VarHandle" ∧ (parseMethodDescriptor Mc.1.desc).map (fun d => d.parameters.length) = some n
def OkI (Mc : MTy) (n : Nat) : Prop :=
  Cond.instanceMethod Mc.1 ∈ TB ∧ Cond.initialized Mc.1.cls ∈ TB ∧ Cond.code Mc.1 Mc.2.1 Mc.2.2.1 none ∈ TB ∧ Mc.2.2.2.1 = none ∧ Mc.1.name = "<init>" ∧ Mc.1.cls ≠ "java/lang/invoke/MethodHandle" ∧ Mc.1.cls ≠ "java/lang/invoke/VarHandle" ∧ (parseMethodDescriptor Mc.1.desc).map (fun d => d.parameters.length) = some n
/-- the callee's room fits the caller's -/
def RmOk (Mc M : MTy) (mc ms cells slots : Nat) : Prop :=
  (Mc.2.2.2.2.cells = mc ∧ Mc.2.2.2.2.slots = ms) ∧ (Mc.2.2.2.2.frames + 1 ≤ M.2.2.2.2.frames ∧ 8 + (Mc.2.2.1 + 11) + Mc.2.2.2.2.locals ≤ M.2.2.2.2.locals) ∧ cells + mc ≤ M.2.2.2.2.cells ∧ slots + ms ≤ M.2.2.2.2.slots
section XC
variable {l : Launch} {M : MTy} {A : State → Nat → Prop} {Z : List Frame → Array Value → State → State → Prop} {E : Array Value → State → Prop} {G : Gx} {cells slots : Nat} {mem : Mem} {pc : Nat} {lv : Lv} {st : List Value}
theorem x_run {p : Program} {e : Env} {R : Room} {s : State} {m : MethodId} {args : Array Value} {below : List Frame} {meth : Method} {c : Code} {H : Heap} {locs : List Loc} {Q : State → Prop} {ls : Array Slot} {rest st0 : List Value} {a : Array Value} {A0 : Nat → Prop} {H0 : Heap} {mc ms : Nat} {P : Option Value → Gx → Mem → Prop} {ct : Nat → va_E}
    (hr : va_Run p l e R s m args below meth c H locs cells slots mc ms (F0 m pc ls st0) rest (Qm G P H.size a) (Fr G H.size)) (hD : va_D A0 (wd (gK G) (gA G) ct)) (hS : va_S A0 H0 H locs) (hA : ∀ q, H0.size ≤ q → A0 q)
    (kk : ∀ (o : Option Value) (G' : Gx) (mem' : Mem) (H1 : Heap) (locs1 : List Loc), P o G' mem' → gD G' = gD G → gC G' = gC G → va_P (gD G) vwCl (wd (gK G') (gA G') (cellOf G' mem')) H1 → va_D A0 (wd (gK G') (gA G') (cellOf G' mem')) → va_S A0 H0 H1 locs1 → W p l e R s m args below meth c H1 locs1 (cells + mc) (slots + ms) Q (F0 m (pc + 3) ls (o.toList ++ rest))) : W p l e R s m args below meth c H locs cells slots Q (F0 m pc ls st0) := by
  have hF := Fr_sub hD hS hA
  intro T hT X
  obtain ⟨v, st₀, t, T', L, h0, X', hL, e1, e2, ⟨⟨o, G', mem', hv, hp, hd1, hd2, hP1, hD1⟩, hz, hk⟩, st⟩ := hr T hT X
  cases hv
  rw [h0] at hz hk
  obtain ⟨t2, a1, b1⟩ := kk v G' mem' T'.heap (locs ++ L) hp hd1 hd2 (by rw [e1]; exact hP1) (hD1.weaken (fun _ q _ h => hF q.1 h))
    ⟨Nat.le_trans hS.1 (by rw [e1]; exact hz), fun q h1 h2 => by rw [e1, hk q (Nat.lt_of_lt_of_le h1 hS.1) (fun z => h2 (hF q z))]; exact hS.2.1 q h1 h2, fun q hq => by
      rcases List.mem_append.mp hq with h | h
      · exact hS.2.2 q h
      · exact hF _ (hL q h)⟩ T' rfl X'
  exact ⟨t2, st t2 a1, b1⟩
theorem x_callV {Mc : MTy} {mc ms index ci n N : Nat} {As rest fs : List Value} {C0 : String} {T : u_T} {P : Option Value → Gx → Mem → Prop} (j : Nat) (hct : Ctg l Mc G mc ms (.ref (gA G j) :: As) mem P) (hok : OkV Mc C0 n) (hdg : decode M.2.1 pc = .ok (.invokevirtual index, 3)) (w1 : Cond.methodLink M.1.cls index Mc.1 ∈ TB) (hrm : RmOk Mc M mc ms cells slots)
    (hj : j < gK G) (hc : cellR G j (mem j) = .inr (ci, fs)) (hcl : vwCl[ci]? = some (C0, T, N)) (hn : As.length = n) (hst : st = As.reverse ++ .ref (gA G j) :: rest) (hcat : (rest.map fun v => v.category).sum ≤ 8)
    (kk : ∀ (o : Option Value) (G' : Gx) (mem' : Mem), P o G' mem' → gD G' = gD G → gC G' = gC G → Xg l M A Z E G' (cells + mc) (slots + ms) mem' (pc + 3) lv (o.toList ++ rest)) : Xg l M A Z E G cells slots mem pc lv st := by
  intro p e s m args below meth c H locs ls C hP hD hS hL
  obtain ⟨w2, w3, w4, w5, hy⟩ := hok
  have hT : GoodIn TB (wsV M.1.cls index C0 Mc.1 (wsM Mc)) := by
    intro w h
    rcases List.mem_append.mp h with h | h
    · have : w = Cond.methodLink M.1.cls index Mc.1 ∨ w = Cond.instanceMethod Mc.1 ∨ w = Cond.selects C0 Mc.1 Mc.1 ∨ w = Cond.initialized C0 := by simpa using h
      rcases this with rfl | rfl | rfl | rfl
      · exact ⟨w1, TB_good w1⟩
      · exact ⟨w2, TB_good w2⟩
      · exact ⟨w3, TB_good w3⟩
      · exact ⟨w4, TB_good w4⟩
    · exact gI_TB w5 w h
  have hrun := va_runV (p := p) (e := e) (R := M.2.2.2.2) (below := below) (meth := meth) (H := H) (locs := locs) (cells := cells) (slots := slots) (g := F0 m pc ls st) (b := gA G j) (As := As) (rest := rest) (S := ⟨C.1, C.2.1, C.2.2.1, C.2.2.2.1, C.2.2.2.2.1⟩) (hM := hct H.size) (cw := cwV n C.2.2.2.2.1 hT rfl hrm.1.1 hrm.1.2 hy hrm.2.1)
    ⟨Pm_blind, va_recv C.2.2.2.2.2.2.2.2.1.1 hP (ci := ci) (q0 := j) hcl (by rw [wd_at hj]; exact congrArg (fun z => some (gA G j, z)) hc), fun U hU hW => ⟨rfl, by rw [hU], by rw [hU]; exact hP, Kx.moved hW.alike C.2.2.2.2.2.2.2.2.1, hD.weaken (fun _ _ _ _ => trivial)⟩⟩ rfl hn hL.1 hst (lv_room hcat) hdg hrm.2.2
  exact x_run hrun hD hS C.2.2.2.2.2.2.2.2.2.1 (fun o G' mem' H1 locs1 hp hd1 hd2 hP1 hD1 hS1 => kk o G' mem' hp hd1 hd2 p e s m args below meth c H1 locs1 ls (by unfold Cx Kx at C ⊢; rw [hd1, hd2]; exact C) (by rw [hd1]; exact hP1) hD1 hS1 hL)
theorem x_callS {Mc : MTy} {mc ms index n : Nat} {As rest : List Value} {P : Option Value → Gx → Mem → Prop} (hct : Ctg l Mc G mc ms As mem P) (hok : OkS Mc n) (hdg : decode M.2.1 pc = .ok (.invokestatic index, 3)) (w1 : Cond.methodLink M.1.cls index Mc.1 ∈ TB) (hrm : RmOk Mc M mc ms cells slots)
    (hn : As.length = n) (hst : st = As.reverse ++ rest) (hcat : (rest.map fun v => v.category).sum ≤ 8)
    (kk : ∀ (o : Option Value) (G' : Gx) (mem' : Mem), P o G' mem' → gD G' = gD G → gC G' = gC G → Xg l M A Z E G' (cells + mc) (slots + ms) mem' (pc + 3) lv (o.toList ++ rest)) : Xg l M A Z E G cells slots mem pc lv st := by
  intro p e s m args below meth c H locs ls C hP hD hS hL
  obtain ⟨w2, w4, w5, hy⟩ := hok
  have hrun := va_runS (p := p) (e := e) (R := M.2.2.2.2) (below := below) (meth := meth) (H := H) (locs := locs) (cells := cells) (slots := slots) (g := F0 m pc ls st) (As := As) (rest := rest) (S := ⟨C.1, C.2.1, C.2.2.1, C.2.2.2.1, C.2.2.2.2.1⟩) (hM := hct H.size) (cw := ⟨callB_of n C.2.2.2.2.1 (gI_TB w5) rfl hrm.1.1 hrm.1.2 (C.2.2.2.2.1 _ w4) (C.2.2.2.2.1 _ w1) hy hrm.2.1, C.2.2.2.2.1 _ w2⟩)
    ⟨Pm_blind, fun U hU hW => ⟨rfl, by rw [hU], by rw [hU]; exact hP, Kx.moved hW.alike C.2.2.2.2.2.2.2.2.1, hD.weaken (fun _ _ _ _ => trivial)⟩⟩ rfl hn hL.1 hst (lv_room hcat) hdg hrm.2.2
  exact x_run hrun hD hS C.2.2.2.2.2.2.2.2.2.1 (fun o G' mem' H1 locs1 hp hd1 hd2 hP1 hD1 hS1 => kk o G' mem' hp hd1 hd2 p e s m args below meth c H1 locs1 ls (by unfold Cx Kx at C ⊢; rw [hd1, hd2]; exact C) (by rw [hd1]; exact hP1) hD1 hS1 hL)
theorem x_callI {Mc : MTy} {mc ms index n : Nat} {As rest : List Value} {P : Option Value → Gx → Mem → Prop} (j : Nat) (hct : Ctg l Mc G mc ms (.ref (gA G j) :: As) mem P) (hok : OkI Mc n) (hdg : decode M.2.1 pc = .ok (.invokespecial index, 3)) (w1 : Cond.methodLink M.1.cls index Mc.1 ∈ TB) (hrm : RmOk Mc M mc ms cells slots)
    (hn : As.length = n) (hst : st = As.reverse ++ .ref (gA G j) :: rest) (hcat : (rest.map fun v => v.category).sum ≤ 8)
    (kk : ∀ (o : Option Value) (G' : Gx) (mem' : Mem), P o G' mem' → gD G' = gD G → gC G' = gC G → Xg l M A Z E G' (cells + mc) (slots + ms) mem' (pc + 3) lv (o.toList ++ rest)) : Xg l M A Z E G cells slots mem pc lv st := by
  intro p e s m args below meth c H locs ls C hP hD hS hL
  obtain ⟨w2, w4, w5, hret, hnm, hy⟩ := hok
  have w5' : Cond.code Mc.1 Mc.2.1 Mc.2.2.1 Mc.2.2.2.1 ∈ TB := by rw [hret]; exact w5
  have hrun := va_runI (p := p) (e := e) (R := M.2.2.2.2) (below := below) (meth := meth) (H := H) (locs := locs) (cells := cells) (slots := slots) (g := F0 m pc ls st) (b := gA G j) (As := As) (rest := rest) (S := ⟨C.1, C.2.1, C.2.2.1, C.2.2.2.1, C.2.2.2.2.1⟩) (hM := hct H.size) (cw := cwI n C.2.2.2.2.1 (gI_TB w5') (by rw [wsM, hret]) hrm.1.1 hrm.1.2 (C.2.2.2.2.1 _ w4) (C.2.2.2.2.1 _ w1) (C.2.2.2.2.1 _ w2) hnm hy hrm.2.1)
    ⟨Pm_blind, fun U hU hW => ⟨rfl, by rw [hU], by rw [hU]; exact hP, Kx.moved hW.alike C.2.2.2.2.2.2.2.2.1, hD.weaken (fun _ _ _ _ => trivial)⟩⟩ rfl hn hL.1 hst (lv_room hcat) hdg hrm.2.2
  exact x_run hrun hD hS C.2.2.2.2.2.2.2.2.2.1 (fun o G' mem' H1 locs1 hp hd1 hd2 hP1 hD1 hS1 => kk o G' mem' hp hd1 hd2 p e s m args below meth c H1 locs1 ls (by unfold Cx Kx at C ⊢; rw [hd1, hd2]; exact C) (by rw [hd1]; exact hP1) hD1 hS1 hL)
/-- calls of methods that make no cells -/
theorem x_callVI {Mc : MTy} {index ci n N : Nat} {As rest fs : List Value} {C0 : String} {T : u_T} {P : Int32 → Mem → Prop} (j : Nat) (hct : CtI l Mc G (.ref (gA G j) :: As) mem P) (hok : OkV Mc C0 n) (hdg : decode M.2.1 pc = .ok (.invokevirtual index, 3)) (w1 : Cond.methodLink M.1.cls index Mc.1 ∈ TB) (hrm : RmOk Mc M 0 0 cells slots) (hj : j < gK G) (hc : cellR G j (mem j) = .inr (ci, fs)) (hcl : vwCl[ci]? = some (C0, T, N)) (hn : As.length = n) (hst : st = As.reverse ++ .ref (gA G j) :: rest) (hcat : (rest.map fun v => v.category).sum ≤ 8)
    (kk : ∀ (r : Int32) (mem' : Mem), P r mem' → Xg l M A Z E G cells slots mem' (pc + 3) lv (.int r :: rest)) : Xg l M A Z E G cells slots mem pc lv st := by
  refine x_callV j hct hok hdg w1 hrm hj hc hcl hn hst hcat (fun o G' mem' h _ _ => ?_)
  obtain ⟨rfl, r, rfl, h⟩ := h
  exact kk r mem' h
theorem x_callVL {Mc : MTy} {index ci n N : Nat} {As rest fs : List Value} {C0 : String} {T : u_T} {P : Int64 → Mem → Prop} (j : Nat) (hct : CtL l Mc G (.ref (gA G j) :: As) mem P) (hok : OkV Mc C0 n) (hdg : decode M.2.1 pc = .ok (.invokevirtual index, 3)) (w1 : Cond.methodLink M.1.cls index Mc.1 ∈ TB) (hrm : RmOk Mc M 0 0 cells slots) (hj : j < gK G) (hc : cellR G j (mem j) = .inr (ci, fs)) (hcl : vwCl[ci]? = some (C0, T, N)) (hn : As.length = n) (hst : st = As.reverse ++ .ref (gA G j) :: rest) (hcat : (rest.map fun v => v.category).sum ≤ 8)
    (kk : ∀ (r : Int64) (mem' : Mem), P r mem' → Xg l M A Z E G cells slots mem' (pc + 3) lv (.long r :: rest)) : Xg l M A Z E G cells slots mem pc lv st := by
  refine x_callV j hct hok hdg w1 hrm hj hc hcl hn hst hcat (fun o G' mem' h _ _ => ?_)
  obtain ⟨rfl, r, rfl, h⟩ := h
  exact kk r mem' h
theorem x_callVV {Mc : MTy} {index ci n N : Nat} {As rest fs : List Value} {C0 : String} {T : u_T} {P : Mem → Prop} (j : Nat) (hct : CtV l Mc G (.ref (gA G j) :: As) mem P) (hok : OkV Mc C0 n) (hdg : decode M.2.1 pc = .ok (.invokevirtual index, 3)) (w1 : Cond.methodLink M.1.cls index Mc.1 ∈ TB) (hrm : RmOk Mc M 0 0 cells slots) (hj : j < gK G) (hc : cellR G j (mem j) = .inr (ci, fs)) (hcl : vwCl[ci]? = some (C0, T, N)) (hn : As.length = n) (hst : st = As.reverse ++ .ref (gA G j) :: rest) (hcat : (rest.map fun v => v.category).sum ≤ 8)
    (kk : ∀ (mem' : Mem), P mem' → Xg l M A Z E G cells slots mem' (pc + 3) lv rest) : Xg l M A Z E G cells slots mem pc lv st := by
  refine x_callV j hct hok hdg w1 hrm hj hc hcl hn hst hcat (fun o G' mem' h _ _ => ?_)
  obtain ⟨rfl, rfl, h⟩ := h
  exact kk mem' h
theorem x_callSI {Mc : MTy} {index n : Nat} {As rest : List Value} {P : Int32 → Mem → Prop} (hct : CtI l Mc G As mem P) (hok : OkS Mc n) (hdg : decode M.2.1 pc = .ok (.invokestatic index, 3)) (w1 : Cond.methodLink M.1.cls index Mc.1 ∈ TB) (hrm : RmOk Mc M 0 0 cells slots) (hn : As.length = n) (hst : st = As.reverse ++ rest) (hcat : (rest.map fun v => v.category).sum ≤ 8)
    (kk : ∀ (r : Int32) (mem' : Mem), P r mem' → Xg l M A Z E G cells slots mem' (pc + 3) lv (.int r :: rest)) : Xg l M A Z E G cells slots mem pc lv st := by
  refine x_callS hct hok hdg w1 hrm hn hst hcat (fun o G' mem' h _ _ => ?_)
  obtain ⟨rfl, r, rfl, h⟩ := h
  exact kk r mem' h
theorem x_callSL {Mc : MTy} {index n : Nat} {As rest : List Value} {P : Int64 → Mem → Prop} (hct : CtL l Mc G As mem P) (hok : OkS Mc n) (hdg : decode M.2.1 pc = .ok (.invokestatic index, 3)) (w1 : Cond.methodLink M.1.cls index Mc.1 ∈ TB) (hrm : RmOk Mc M 0 0 cells slots) (hn : As.length = n) (hst : st = As.reverse ++ rest) (hcat : (rest.map fun v => v.category).sum ≤ 8)
    (kk : ∀ (r : Int64) (mem' : Mem), P r mem' → Xg l M A Z E G cells slots mem' (pc + 3) lv (.long r :: rest)) : Xg l M A Z E G cells slots mem pc lv st := by
  refine x_callS hct hok hdg w1 hrm hn hst hcat (fun o G' mem' h _ _ => ?_)
  obtain ⟨rfl, r, rfl, h⟩ := h
  exact kk r mem' h
theorem x_callSV {Mc : MTy} {index n : Nat} {As rest : List Value} {P : Mem → Prop} (hct : CtV l Mc G As mem P) (hok : OkS Mc n) (hdg : decode M.2.1 pc = .ok (.invokestatic index, 3)) (w1 : Cond.methodLink M.1.cls index Mc.1 ∈ TB) (hrm : RmOk Mc M 0 0 cells slots) (hn : As.length = n) (hst : st = As.reverse ++ rest) (hcat : (rest.map fun v => v.category).sum ≤ 8)
    (kk : ∀ (mem' : Mem), P mem' → Xg l M A Z E G cells slots mem' (pc + 3) lv rest) : Xg l M A Z E G cells slots mem pc lv st := by
  refine x_callS hct hok hdg w1 hrm hn hst hcat (fun o G' mem' h _ _ => ?_)
  obtain ⟨rfl, rfl, h⟩ := h
  exact kk mem' h
end XC
section XE
variable {l : Launch} {M : MTy} {G0 G : Gx} {mc ms : Nat} {mem : Mem} {pc : Nat} {lv : Lv}
theorem Qm_of {P : Option Value → Gx → Mem → Prop} {o : Option Value} {s t : State} {args : Array Value} {H : Heap} {locs : List Loc} (h : P o G mem) (hd : gD G = gD G0) (hc : gC G = gC G0) (hP : va_P (gD G) vwCl (wd (gK G) (gA G) (cellOf G mem)) H) (hD : va_D (Fr G0 s.heap.size) (wd (gK G) (gA G) (cellOf G mem))) (hS : va_S (Fr G0 s.heap.size) s.heap H locs) (ht : t.heap = H) : Qm G0 P s.heap.size args s (.returned o) t :=
  ⟨⟨o, G, mem, rfl, h, hd, hc, by rw [ht, ← hd]; exact hP, hD⟩, hS.F ht⟩
theorem x_iret {P : Option Value → Gx → Mem → Prop} {v : Int32} (hdg : decode M.2.1 pc = .ok (.ireturn, 1)) (hr : M.2.2.2.1 = some .int) (hd : gD G = gD G0) (hc : gC G = gC G0) (h : P (some (.int v)) G mem) : Xm l M G0 mc ms P G mc ms mem pc lv [.int v] := by
  intro p e s m args below meth c H locs ls C hP hD hS hL
  exact W.iret C.1 C.2.1 (C.2.2.2.2.2.1.trans hr) (fun t ht _ => Qm_of h hd hc hP hD hS ht) hS.2.2 hdg C.2.2.2.2.2.2.1
theorem x_zret {P : Option Value → Gx → Mem → Prop} {v : Int32} (hdg : decode M.2.1 pc = .ok (.ireturn, 1)) (hr : M.2.2.2.1 = some .boolean) (hd : gD G = gD G0) (hc : gC G = gC G0) (hv : v = 0 ∨ v = 1) (h : P (some (.int v)) G mem) : Xm l M G0 mc ms P G mc ms mem pc lv [.int v] := by
  intro p e s m args below meth c H locs ls C hP hD hS hL
  exact W.zret C.1 C.2.1 (C.2.2.2.2.2.1.trans hr) (by rcases hv with rfl | rfl <;> rfl) (fun t ht _ => Qm_of h hd hc hP hD hS ht) hS.2.2 hdg C.2.2.2.2.2.2.1
theorem x_lret {P : Option Value → Gx → Mem → Prop} {v : Int64} (hdg : decode M.2.1 pc = .ok (.lreturn, 1)) (hr : M.2.2.2.1 = some .long) (hd : gD G = gD G0) (hc : gC G = gC G0) (h : P (some (.long v)) G mem) : Xm l M G0 mc ms P G mc ms mem pc lv [.long v] := by
  intro p e s m args below meth c H locs ls C hP hD hS hL
  exact W.lret C.1 C.2.1 (C.2.2.2.2.2.1.trans hr) (fun t ht _ => Qm_of h hd hc hP hD hS ht) hS.2.2 hdg C.2.2.2.2.2.2.1
theorem x_vret {P : Option Value → Gx → Mem → Prop} (hdg : decode M.2.1 pc = .ok (.return_, 1)) (hr : M.2.2.2.1 = none) (hd : gD G = gD G0) (hc : gC G = gC G0) (h : P none G mem) : Xm l M G0 mc ms P G mc ms mem pc lv [] := by
  intro p e s m args below meth c H locs ls C hP hD hS hL
  exact W.vret C.1 C.2.1 (C.2.2.2.2.2.1.trans hr) (fun t ht _ => Qm_of h hd hc hP hD hS ht) hS.2.2 hdg C.2.2.2.2.2.2.1
/-- the ends of methods that make no cells -/
theorem x_endI {P : Int32 → Mem → Prop} {v : Int32} (hdg : decode M.2.1 pc = .ok (.ireturn, 1)) (hr : M.2.2.2.1 = some .int) (h : P v mem) : XI l M G P mem pc lv [.int v] := x_iret hdg hr rfl rfl ⟨rfl, v, rfl, h⟩
theorem x_endZ {P : Int32 → Mem → Prop} {v : Int32} (hdg : decode M.2.1 pc = .ok (.ireturn, 1)) (hr : M.2.2.2.1 = some .boolean) (hv : v = 0 ∨ v = 1) (h : P v mem) : XI l M G P mem pc lv [.int v] := x_zret hdg hr rfl rfl hv ⟨rfl, v, rfl, h⟩
theorem x_endL {P : Int64 → Mem → Prop} {v : Int64} (hdg : decode M.2.1 pc = .ok (.lreturn, 1)) (hr : M.2.2.2.1 = some .long) (h : P v mem) : XL l M G P mem pc lv [.long v] := x_lret hdg hr rfl rfl ⟨rfl, v, rfl, h⟩
theorem x_endV {P : Mem → Prop} (hdg : decode M.2.1 pc = .ok (.return_, 1)) (hr : M.2.2.2.1 = none) (h : P mem) : XV l M G P mem pc lv [] := x_vret hdg hr rfl rfl ⟨rfl, rfl, h⟩
end XE
theorem CtI.mono {l : Launch} {M : MTy} {G : Gx} {As : List Value} {mem : Mem} {P P' : Int32 → Mem → Prop} (h : CtI l M G As mem P) (hp : ∀ r m', P r m' → P' r m') : CtI l M G As mem P' := Ctg.mono h (fun _ _ _ ⟨a, r, b, c⟩ => ⟨a, r, b, hp _ _ c⟩)
theorem CtL.mono {l : Launch} {M : MTy} {G : Gx} {As : List Value} {mem : Mem} {P P' : Int64 → Mem → Prop} (h : CtL l M G As mem P) (hp : ∀ r m', P r m' → P' r m') : CtL l M G As mem P' := Ctg.mono h (fun _ _ _ ⟨a, r, b, c⟩ => ⟨a, r, b, hp _ _ c⟩)
theorem CtV.mono {l : Launch} {M : MTy} {G : Gx} {As : List Value} {mem : Mem} {P P' : Mem → Prop} (h : CtV l M G As mem P) (hp : ∀ m', P m' → P' m') : CtV l M G As mem P' := Ctg.mono h (fun _ _ _ ⟨a, b, c⟩ => ⟨a, b, hp _ c⟩)
end
section
theorem tb_0 : (Jvm.Cond.selects "WeightedForest$SetupText" ({ cls := "WeightedForest$SetupText", name := "take", desc := "(II)I" } : Jvm.MethodName) ({ cls := "WeightedForest$SetupText", name := "take", desc := "(II)I" } : Jvm.MethodName)) ∈ TB := TB_in 0 (by decide +kernel) (by decide +kernel)
theorem tb_1 : (Jvm.Cond.selects "WeightedForest$SetupText" ({ cls := "WeightedForest$SetupText", name := "takeNumber", desc := "(II)I" } : Jvm.MethodName) ({ cls := "WeightedForest$SetupText", name := "takeNumber", desc := "(II)I" } : Jvm.MethodName)) ∈ TB := TB_in 1 (by decide +kernel) (by decide +kernel)
theorem tb_2 : (Jvm.Cond.selects "WeightedForest$SetupText" ({ cls := "WeightedForest$SetupText", name := "takeWeights", desc := "(LWeightedForest$Forest;)Z" } : Jvm.MethodName) ({ cls := "WeightedForest$SetupText", name := "takeWeights", desc := "(LWeightedForest$Forest;)Z" } : Jvm.MethodName)) ∈ TB := TB_in 2 (by decide +kernel) (by decide +kernel)
theorem tb_3 : (Jvm.Cond.selects "WeightedForest$SetupText" ({ cls := "WeightedForest$SetupText", name := "takeEdges", desc := "(LWeightedForest$Forest;)Z" } : Jvm.MethodName) ({ cls := "WeightedForest$SetupText", name := "takeEdges", desc := "(LWeightedForest$Forest;)Z" } : Jvm.MethodName)) ∈ TB := TB_in 3 (by decide +kernel) (by decide +kernel)
theorem tb_4 : (Jvm.Cond.selects "WeightedForest$SetupText" ({ cls := "WeightedForest$SetupText", name := "takeEdge", desc := "(LWeightedForest$Forest;)Z" } : Jvm.MethodName) ({ cls := "WeightedForest$SetupText", name := "takeEdge", desc := "(LWeightedForest$Forest;)Z" } : Jvm.MethodName)) ∈ TB := TB_in 4 (by decide +kernel) (by decide +kernel)
theorem tb_5 : (Jvm.Cond.selects "WeightedForest$SetupText" ({ cls := "WeightedForest$SetupText", name := "joinTrees", desc := "(II)V" } : Jvm.MethodName) ({ cls := "WeightedForest$SetupText", name := "joinTrees", desc := "(II)V" } : Jvm.MethodName)) ∈ TB := TB_in 5 (by decide +kernel) (by decide +kernel)
theorem tb_6 : (Jvm.Cond.selects "WeightedForest" ({ cls := "WeightedForest", name := "emptySlots", desc := "()V" } : Jvm.MethodName) ({ cls := "WeightedForest", name := "emptySlots", desc := "()V" } : Jvm.MethodName)) ∈ TB := TB_in 6 (by decide +kernel) (by decide +kernel)
theorem tb_7 : (Jvm.Cond.selects "WeightedForest$Survey" ({ cls := "WeightedForest$Survey", name := "extendOver", desc := "(II)V" } : Jvm.MethodName) ({ cls := "WeightedForest$Survey", name := "extendOver", desc := "(II)V" } : Jvm.MethodName)) ∈ TB := TB_in 7 (by decide +kernel) (by decide +kernel)
theorem tb_8 : (Jvm.Cond.selects "WeightedForest$Survey" ({ cls := "WeightedForest$Survey", name := "stepToward", desc := "(II)I" } : Jvm.MethodName) ({ cls := "WeightedForest$Survey", name := "stepToward", desc := "(II)I" } : Jvm.MethodName)) ∈ TB := TB_in 8 (by decide +kernel) (by decide +kernel)
theorem tb_9 : (Jvm.Cond.selects "WeightedForest$Survey" ({ cls := "WeightedForest$Survey", name := "onPath", desc := "(III)Z" } : Jvm.MethodName) ({ cls := "WeightedForest$Survey", name := "onPath", desc := "(III)Z" } : Jvm.MethodName)) ∈ TB := TB_in 9 (by decide +kernel) (by decide +kernel)
theorem tb_10 : (Jvm.Cond.selects "WeightedForest$Contraction" ({ cls := "WeightedForest$Contraction", name := "copyEdges", desc := "(LWeightedForest$Forest;)V" } : Jvm.MethodName) ({ cls := "WeightedForest$Contraction", name := "copyEdges", desc := "(LWeightedForest$Forest;)V" } : Jvm.MethodName)) ∈ TB := TB_in 10 (by decide +kernel) (by decide +kernel)
theorem tb_11 : (Jvm.Cond.selects "WeightedForest$Contraction" ({ cls := "WeightedForest$Contraction", name := "gatherTree", desc := "(I)V" } : Jvm.MethodName) ({ cls := "WeightedForest$Contraction", name := "gatherTree", desc := "(I)V" } : Jvm.MethodName)) ∈ TB := TB_in 11 (by decide +kernel) (by decide +kernel)
theorem tb_12 : (Jvm.Cond.selects "WeightedForest$Contraction" ({ cls := "WeightedForest$Contraction", name := "isVertex", desc := "(I)Z" } : Jvm.MethodName) ({ cls := "WeightedForest$Contraction", name := "isVertex", desc := "(I)Z" } : Jvm.MethodName)) ∈ TB := TB_in 12 (by decide +kernel) (by decide +kernel)
theorem tb_13 : (Jvm.Cond.selects "WeightedForest$Contraction" ({ cls := "WeightedForest$Contraction", name := "gatherNeighbours", desc := "()V" } : Jvm.MethodName) ({ cls := "WeightedForest$Contraction", name := "gatherNeighbours", desc := "()V" } : Jvm.MethodName)) ∈ TB := TB_in 13 (by decide +kernel) (by decide +kernel)
theorem tb_14 : (Jvm.Cond.selects "WeightedForest$Contraction" ({ cls := "WeightedForest$Contraction", name := "rake", desc := "()V" } : Jvm.MethodName) ({ cls := "WeightedForest$Contraction", name := "rake", desc := "()V" } : Jvm.MethodName)) ∈ TB := TB_in 14 (by decide +kernel) (by decide +kernel)
theorem tb_15 : (Jvm.Cond.selects "WeightedForest$Contraction" ({ cls := "WeightedForest$Contraction", name := "removeGreatest", desc := "()V" } : Jvm.MethodName) ({ cls := "WeightedForest$Contraction", name := "removeGreatest", desc := "()V" } : Jvm.MethodName)) ∈ TB := TB_in 15 (by decide +kernel) (by decide +kernel)
theorem tb_16 : (Jvm.Cond.selects "WeightedForest$Contraction" ({ cls := "WeightedForest$Contraction", name := "remove", desc := "(I)V" } : Jvm.MethodName) ({ cls := "WeightedForest$Contraction", name := "remove", desc := "(I)V" } : Jvm.MethodName)) ∈ TB := TB_in 16 (by decide +kernel) (by decide +kernel)
theorem tb_17 : (Jvm.Cond.selects "WeightedForest$Contraction" ({ cls := "WeightedForest$Contraction", name := "degreeOf", desc := "(I)I" } : Jvm.MethodName) ({ cls := "WeightedForest$Contraction", name := "degreeOf", desc := "(I)I" } : Jvm.MethodName)) ∈ TB := TB_in 17 (by decide +kernel) (by decide +kernel)
theorem tb_18 : (Jvm.Cond.selects "WeightedForest$Contraction" ({ cls := "WeightedForest$Contraction", name := "compress", desc := "()V" } : Jvm.MethodName) ({ cls := "WeightedForest$Contraction", name := "compress", desc := "()V" } : Jvm.MethodName)) ∈ TB := TB_in 18 (by decide +kernel) (by decide +kernel)
theorem tb_19 : (Jvm.Cond.selects "WeightedForest$Contraction" ({ cls := "WeightedForest$Contraction", name := "makeEdgesOld", desc := "()V" } : Jvm.MethodName) ({ cls := "WeightedForest$Contraction", name := "makeEdgesOld", desc := "()V" } : Jvm.MethodName)) ∈ TB := TB_in 19 (by decide +kernel) (by decide +kernel)
theorem tb_20 : (Jvm.Cond.selects "WeightedForest$Contraction" ({ cls := "WeightedForest$Contraction", name := "bypass", desc := "(I)V" } : Jvm.MethodName) ({ cls := "WeightedForest$Contraction", name := "bypass", desc := "(I)V" } : Jvm.MethodName)) ∈ TB := TB_in 20 (by decide +kernel) (by decide +kernel)
theorem tb_21 : (Jvm.Cond.selects "WeightedForest$Contraction" ({ cls := "WeightedForest$Contraction", name := "neighbourAfter", desc := "(II)I" } : Jvm.MethodName) ({ cls := "WeightedForest$Contraction", name := "neighbourAfter", desc := "(II)I" } : Jvm.MethodName)) ∈ TB := TB_in 21 (by decide +kernel) (by decide +kernel)
theorem tb_22 : (Jvm.Cond.selects "WeightedForest$Survey" ({ cls := "WeightedForest$Survey", name := "heavierPart", desc := "(II)I" } : Jvm.MethodName) ({ cls := "WeightedForest$Survey", name := "heavierPart", desc := "(II)I" } : Jvm.MethodName)) ∈ TB := TB_in 22 (by decide +kernel) (by decide +kernel)
theorem tb_23 : (Jvm.Cond.selects "WeightedForest$Survey" ({ cls := "WeightedForest$Survey", name := "chanceOfPath", desc := "(III)J" } : Jvm.MethodName) ({ cls := "WeightedForest$Survey", name := "chanceOfPath", desc := "(III)J" } : Jvm.MethodName)) ∈ TB := TB_in 23 (by decide +kernel) (by decide +kernel)
theorem tb_24 : (Jvm.Cond.selects "WeightedForest" ({ cls := "WeightedForest", name := "obeys", desc := "(I)Z" } : Jvm.MethodName) ({ cls := "WeightedForest", name := "obeys", desc := "(I)Z" } : Jvm.MethodName)) ∈ TB := TB_in 24 (by decide +kernel) (by decide +kernel)
theorem tb_25 : (Jvm.Cond.selects "WeightedForest" ({ cls := "WeightedForest", name := "triesLink", desc := "(II)Z" } : Jvm.MethodName) ({ cls := "WeightedForest", name := "triesLink", desc := "(II)Z" } : Jvm.MethodName)) ∈ TB := TB_in 25 (by decide +kernel) (by decide +kernel)
theorem tb_26 : (Jvm.Cond.selects "WeightedForest" ({ cls := "WeightedForest", name := "triesCut", desc := "(II)Z" } : Jvm.MethodName) ({ cls := "WeightedForest", name := "triesCut", desc := "(II)Z" } : Jvm.MethodName)) ∈ TB := TB_in 26 (by decide +kernel) (by decide +kernel)
theorem tb_27 : (Jvm.Cond.selects "WeightedForest" ({ cls := "WeightedForest", name := "joinedInTrial", desc := "(II)Z" } : Jvm.MethodName) ({ cls := "WeightedForest", name := "joinedInTrial", desc := "(II)Z" } : Jvm.MethodName)) ∈ TB := TB_in 27 (by decide +kernel) (by decide +kernel)
theorem tb_28 : (Jvm.Cond.selects "WeightedForest" ({ cls := "WeightedForest", name := "leavesEarlier", desc := "(II)Z" } : Jvm.MethodName) ({ cls := "WeightedForest", name := "leavesEarlier", desc := "(II)Z" } : Jvm.MethodName)) ∈ TB := TB_in 28 (by decide +kernel) (by decide +kernel)
theorem tb_29 : (Jvm.Cond.selects "WeightedForest" ({ cls := "WeightedForest", name := "changeTrial", desc := "(I)V" } : Jvm.MethodName) ({ cls := "WeightedForest", name := "changeTrial", desc := "(I)V" } : Jvm.MethodName)) ∈ TB := TB_in 29 (by decide +kernel) (by decide +kernel)
theorem tb_30 : (Jvm.Cond.selects "WeightedForestModel" ({ cls := "WeightedForestModel", name := "readText", desc := "()I" } : Jvm.MethodName) ({ cls := "WeightedForestModel", name := "readText", desc := "()I" } : Jvm.MethodName)) ∈ TB := TB_in 30 (by decide +kernel) (by decide +kernel)
theorem tb_31 : (Jvm.Cond.selects "WeightedForestModel" ({ cls := "WeightedForestModel", name := "number", desc := "(II)I" } : Jvm.MethodName) ({ cls := "WeightedForestModel", name := "number", desc := "(II)I" } : Jvm.MethodName)) ∈ TB := TB_in 31 (by decide +kernel) (by decide +kernel)
theorem tb_32 : (Jvm.Cond.selects "WeightedForestModel" ({ cls := "WeightedForestModel", name := "sign", desc := "(III)I" } : Jvm.MethodName) ({ cls := "WeightedForestModel", name := "sign", desc := "(III)I" } : Jvm.MethodName)) ∈ TB := TB_in 32 (by decide +kernel) (by decide +kernel)
theorem tb_33 : (Jvm.Cond.selects "WeightedForestModel" ({ cls := "WeightedForestModel", name := "readEdge", desc := "()Z" } : Jvm.MethodName) ({ cls := "WeightedForestModel", name := "readEdge", desc := "()Z" } : Jvm.MethodName)) ∈ TB := TB_in 33 (by decide +kernel) (by decide +kernel)
theorem tb_34 : (Jvm.Cond.selects "WeightedForestModel" ({ cls := "WeightedForestModel", name := "isOneTree", desc := "([III)Z" } : Jvm.MethodName) ({ cls := "WeightedForestModel", name := "isOneTree", desc := "([III)Z" } : Jvm.MethodName)) ∈ TB := TB_in 34 (by decide +kernel) (by decide +kernel)
theorem tb_35 : (Jvm.Cond.selects "WeightedForestModel" ({ cls := "WeightedForestModel", name := "farOf", desc := "([III)I" } : Jvm.MethodName) ({ cls := "WeightedForestModel", name := "farOf", desc := "([III)I" } : Jvm.MethodName)) ∈ TB := TB_in 35 (by decide +kernel) (by decide +kernel)
theorem tb_36 : (Jvm.Cond.selects "WeightedForestModel" ({ cls := "WeightedForestModel", name := "layFar", desc := "([II)V" } : Jvm.MethodName) ({ cls := "WeightedForestModel", name := "layFar", desc := "([II)V" } : Jvm.MethodName)) ∈ TB := TB_in 36 (by decide +kernel) (by decide +kernel)
theorem tb_37 : (Jvm.Cond.selects "WeightedForestModel" ({ cls := "WeightedForestModel", name := "isVertex", desc := "(I)Z" } : Jvm.MethodName) ({ cls := "WeightedForestModel", name := "isVertex", desc := "(I)Z" } : Jvm.MethodName)) ∈ TB := TB_in 37 (by decide +kernel) (by decide +kernel)
theorem tb_38 : (Jvm.Cond.selects "WeightedForestModel" ({ cls := "WeightedForestModel", name := "linkError", desc := "([IIII)I" } : Jvm.MethodName) ({ cls := "WeightedForestModel", name := "linkError", desc := "([IIII)I" } : Jvm.MethodName)) ∈ TB := TB_in 38 (by decide +kernel) (by decide +kernel)
theorem tb_39 : (Jvm.Cond.selects "WeightedForestModel" ({ cls := "WeightedForestModel", name := "note", desc := "()V" } : Jvm.MethodName) ({ cls := "WeightedForestModel", name := "note", desc := "()V" } : Jvm.MethodName)) ∈ TB := TB_in 39 (by decide +kernel) (by decide +kernel)
theorem tb_40 : (Jvm.Cond.selects "WeightedForestModel" ({ cls := "WeightedForestModel", name := "edgeError", desc := "([IIII)I" } : Jvm.MethodName) ({ cls := "WeightedForestModel", name := "edgeError", desc := "([IIII)I" } : Jvm.MethodName)) ∈ TB := TB_in 40 (by decide +kernel) (by decide +kernel)
theorem tb_41 : (Jvm.Cond.selects "WeightedForestModel" ({ cls := "WeightedForestModel", name := "eccentricityOf", desc := "([II)I" } : Jvm.MethodName) ({ cls := "WeightedForestModel", name := "eccentricityOf", desc := "([II)I" } : Jvm.MethodName)) ∈ TB := TB_in 41 (by decide +kernel) (by decide +kernel)
theorem tb_42 : (Jvm.Cond.selects "WeightedForestModel" ({ cls := "WeightedForestModel", name := "diameterOf", desc := "([II)I" } : Jvm.MethodName) ({ cls := "WeightedForestModel", name := "diameterOf", desc := "([II)I" } : Jvm.MethodName)) ∈ TB := TB_in 42 (by decide +kernel) (by decide +kernel)
theorem tb_43 : (Jvm.Cond.selects "WeightedForestModel" ({ cls := "WeightedForestModel", name := "leastOf", desc := "([IIZ)I" } : Jvm.MethodName) ({ cls := "WeightedForestModel", name := "leastOf", desc := "([IIZ)I" } : Jvm.MethodName)) ∈ TB := TB_in 43 (by decide +kernel) (by decide +kernel)
theorem tb_44 : (Jvm.Cond.selects "WeightedForestModel" ({ cls := "WeightedForestModel", name := "costOf", desc := "([II)I" } : Jvm.MethodName) ({ cls := "WeightedForestModel", name := "costOf", desc := "([II)I" } : Jvm.MethodName)) ∈ TB := TB_in 44 (by decide +kernel) (by decide +kernel)
theorem tb_45 : (Jvm.Cond.selects "WeightedForestModel" ({ cls := "WeightedForestModel", name := "liesBetween", desc := "(III)Z" } : Jvm.MethodName) ({ cls := "WeightedForestModel", name := "liesBetween", desc := "(III)Z" } : Jvm.MethodName)) ∈ TB := TB_in 45 (by decide +kernel) (by decide +kernel)
theorem tb_46 : (Jvm.Cond.selects "WeightedForestModel" ({ cls := "WeightedForestModel", name := "contract", desc := "([II)V" } : Jvm.MethodName) ({ cls := "WeightedForestModel", name := "contract", desc := "([II)V" } : Jvm.MethodName)) ∈ TB := TB_in 46 (by decide +kernel) (by decide +kernel)
theorem tb_47 : (Jvm.Cond.selects "WeightedForestModel" ({ cls := "WeightedForestModel", name := "many", desc := "()I" } : Jvm.MethodName) ({ cls := "WeightedForestModel", name := "many", desc := "()I" } : Jvm.MethodName)) ∈ TB := TB_in 47 (by decide +kernel) (by decide +kernel)
theorem tb_48 : (Jvm.Cond.selects "WeightedForestModel" ({ cls := "WeightedForestModel", name := "rake", desc := "(I)V" } : Jvm.MethodName) ({ cls := "WeightedForestModel", name := "rake", desc := "(I)V" } : Jvm.MethodName)) ∈ TB := TB_in 48 (by decide +kernel) (by decide +kernel)
theorem tb_49 : (Jvm.Cond.selects "WeightedForestModel" ({ cls := "WeightedForestModel", name := "degreeOf", desc := "(I)I" } : Jvm.MethodName) ({ cls := "WeightedForestModel", name := "degreeOf", desc := "(I)I" } : Jvm.MethodName)) ∈ TB := TB_in 49 (by decide +kernel) (by decide +kernel)
theorem tb_50 : (Jvm.Cond.selects "WeightedForestModel" ({ cls := "WeightedForestModel", name := "removeVertex", desc := "(II)V" } : Jvm.MethodName) ({ cls := "WeightedForestModel", name := "removeVertex", desc := "(II)V" } : Jvm.MethodName)) ∈ TB := TB_in 50 (by decide +kernel) (by decide +kernel)
theorem tb_51 : (Jvm.Cond.selects "WeightedForestModel" ({ cls := "WeightedForestModel", name := "compress", desc := "(I)V" } : Jvm.MethodName) ({ cls := "WeightedForestModel", name := "compress", desc := "(I)V" } : Jvm.MethodName)) ∈ TB := TB_in 51 (by decide +kernel) (by decide +kernel)
theorem tb_52 : (Jvm.Cond.selects "WeightedForestModel" ({ cls := "WeightedForestModel", name := "neighbour", desc := "(II)I" } : Jvm.MethodName) ({ cls := "WeightedForestModel", name := "neighbour", desc := "(II)I" } : Jvm.MethodName)) ∈ TB := TB_in 52 (by decide +kernel) (by decide +kernel)
theorem tb_53 : (Jvm.Cond.selects "WeightedForestModel" ({ cls := "WeightedForestModel", name := "weightWith", desc := "([II)I" } : Jvm.MethodName) ({ cls := "WeightedForestModel", name := "weightWith", desc := "([II)I" } : Jvm.MethodName)) ∈ TB := TB_in 53 (by decide +kernel) (by decide +kernel)
theorem tb_54 : (Jvm.Cond.selects "WeightedForestModel" ({ cls := "WeightedForestModel", name := "agrees", desc := "([I)Z" } : Jvm.MethodName) ({ cls := "WeightedForestModel", name := "agrees", desc := "([I)Z" } : Jvm.MethodName)) ∈ TB := TB_in 54 (by decide +kernel) (by decide +kernel)
theorem tb_55 : (Jvm.Cond.selects "WeightedForestModel" ({ cls := "WeightedForestModel", name := "command", desc := "(III)Z" } : Jvm.MethodName) ({ cls := "WeightedForestModel", name := "command", desc := "(III)Z" } : Jvm.MethodName)) ∈ TB := TB_in 55 (by decide +kernel) (by decide +kernel)
theorem tb_56 : (Jvm.Cond.initialized "WeightedForestLaw") ∈ TB := TB_in 56 (by decide +kernel) (by decide +kernel)
theorem tb_57 : (Jvm.Cond.initialized "WeightedForest") ∈ TB := TB_in 57 (by decide +kernel) (by decide +kernel)
theorem tb_58 : (Jvm.Cond.initialized "WeightedForest$Forest") ∈ TB := TB_in 58 (by decide +kernel) (by decide +kernel)
theorem tb_59 : (Jvm.Cond.initialized "java/lang/Math") ∈ TB := TB_in 59 (by decide +kernel) (by decide +kernel)
theorem tb_60 : (Jvm.Cond.initialized "java/util/Arrays") ∈ TB := TB_in 60 (by decide +kernel) (by decide +kernel)
theorem tb_61 : (Jvm.Cond.initialized "WeightedForest$Survey") ∈ TB := TB_in 61 (by decide +kernel) (by decide +kernel)
theorem tb_62 : (Jvm.Cond.initialized "WeightedForest$Contraction") ∈ TB := TB_in 62 (by decide +kernel) (by decide +kernel)
theorem tb_63 : (Jvm.Cond.initialized "WeightedForest$SetupText") ∈ TB := TB_in 63 (by decide +kernel) (by decide +kernel)
theorem tb_64 : (Jvm.Cond.initialized "WeightedForest$History") ∈ TB := TB_in 64 (by decide +kernel) (by decide +kernel)
theorem tb_65 : (Jvm.Cond.initialized "WeightedForest$Observations") ∈ TB := TB_in 65 (by decide +kernel) (by decide +kernel)
theorem tb_66 : (Jvm.Cond.initialized "WeightedForestModel") ∈ TB := TB_in 66 (by decide +kernel) (by decide +kernel)
theorem tb_67 : (Jvm.Cond.initialized "java/lang/System") ∈ TB := TB_in 67 (by decide +kernel) (by decide +kernel)
theorem tb_68 : (Jvm.Cond.classLink "WeightedForestLaw" (7 : Nat) "WeightedForest") ∈ TB := TB_in 68 (by decide +kernel) (by decide +kernel)
theorem tb_69 : (Jvm.Cond.instantiable "WeightedForest" (10 : Nat)) ∈ TB := TB_in 69 (by decide +kernel) (by decide +kernel)
theorem tb_70 : (Jvm.Cond.methodLink "WeightedForestLaw" (9 : Nat) ({ cls := "WeightedForest", name := "<init>", desc := "()V" } : Jvm.MethodName)) ∈ TB := TB_in 70 (by decide +kernel) (by decide +kernel)
theorem tb_71 : (Jvm.Cond.instanceMethod ({ cls := "WeightedForest", name := "<init>", desc := "()V" } : Jvm.MethodName)) ∈ TB := TB_in 71 (by decide +kernel) (by decide +kernel)
theorem tb_72 : (Jvm.Cond.code ({ cls := "WeightedForest", name := "<init>", desc := "()V" } : Jvm.MethodName) prog_1_method_1_code (2 : Nat) (Option.none : Option Jvm.ClassFile.FieldType)) ∈ TB := TB_in 72 (by decide +kernel) (by decide +kernel)
theorem tb_73 : (Jvm.Cond.methodLink "WeightedForest" (1 : Nat) ({ cls := "java/lang/Object", name := "<init>", desc := "()V" } : Jvm.MethodName)) ∈ TB := TB_in 73 (by decide +kernel) (by decide +kernel)
theorem tb_74 : (Jvm.Cond.instanceMethod ({ cls := "java/lang/Object", name := "<init>", desc := "()V" } : Jvm.MethodName)) ∈ TB := TB_in 74 (by decide +kernel) (by decide +kernel)
theorem tb_75 : (Jvm.Cond.code ({ cls := "java/lang/Object", name := "<init>", desc := "()V" } : Jvm.MethodName) object_method_1_code (1 : Nat) (Option.none : Option Jvm.ClassFile.FieldType)) ∈ TB := TB_in 75 (by decide +kernel) (by decide +kernel)
theorem tb_76 : (Jvm.Cond.classLink "WeightedForest" (7 : Nat) "WeightedForest$Forest") ∈ TB := TB_in 76 (by decide +kernel) (by decide +kernel)
theorem tb_77 : (Jvm.Cond.instantiable "WeightedForest$Forest" (3 : Nat)) ∈ TB := TB_in 77 (by decide +kernel) (by decide +kernel)
theorem tb_78 : (Jvm.Cond.methodLink "WeightedForest" (9 : Nat) ({ cls := "WeightedForest$Forest", name := "<init>", desc := "()V" } : Jvm.MethodName)) ∈ TB := TB_in 78 (by decide +kernel) (by decide +kernel)
theorem tb_79 : (Jvm.Cond.instanceMethod ({ cls := "WeightedForest$Forest", name := "<init>", desc := "()V" } : Jvm.MethodName)) ∈ TB := TB_in 79 (by decide +kernel) (by decide +kernel)
theorem tb_80 : (Jvm.Cond.code ({ cls := "WeightedForest$Forest", name := "<init>", desc := "()V" } : Jvm.MethodName) prog_3_method_1_code (1 : Nat) (Option.none : Option Jvm.ClassFile.FieldType)) ∈ TB := TB_in 80 (by decide +kernel) (by decide +kernel)
theorem tb_81 : (Jvm.Cond.methodLink "WeightedForest$Forest" (3 : Nat) ({ cls := "java/lang/Object", name := "<init>", desc := "()V" } : Jvm.MethodName)) ∈ TB := TB_in 81 (by decide +kernel) (by decide +kernel)
theorem tb_82 : (Jvm.Cond.classLink "WeightedForest$Forest" (15 : Nat) "[[I") ∈ TB := TB_in 82 (by decide +kernel) (by decide +kernel)
theorem tb_84 : (Jvm.Cond.methodLink "WeightedForest$Forest" (20 : Nat) ({ cls := "WeightedForest$Forest", name := "reset", desc := "(I)V" } : Jvm.MethodName)) ∈ TB := TB_in 84 (by decide +kernel) (by decide +kernel)
theorem tb_85 : (Jvm.Cond.instanceMethod ({ cls := "WeightedForest$Forest", name := "reset", desc := "(I)V" } : Jvm.MethodName)) ∈ TB := TB_in 85 (by decide +kernel) (by decide +kernel)
theorem tb_86 : (Jvm.Cond.selects "WeightedForest$Forest" ({ cls := "WeightedForest$Forest", name := "reset", desc := "(I)V" } : Jvm.MethodName) ({ cls := "WeightedForest$Forest", name := "reset", desc := "(I)V" } : Jvm.MethodName)) ∈ TB := TB_in 86 (by decide +kernel) (by decide +kernel)
theorem tb_87 : (Jvm.Cond.code ({ cls := "WeightedForest$Forest", name := "reset", desc := "(I)V" } : Jvm.MethodName) prog_3_method_2_code (3 : Nat) (Option.none : Option Jvm.ClassFile.FieldType)) ∈ TB := TB_in 87 (by decide +kernel) (by decide +kernel)
theorem tb_88 : (Jvm.Cond.methodLink "WeightedForest$Forest" (24 : Nat) ({ cls := "java/lang/Math", name := "min", desc := "(II)I" } : Jvm.MethodName)) ∈ TB := TB_in 88 (by decide +kernel) (by decide +kernel)
theorem tb_89 : (Jvm.Cond.static ({ cls := "java/lang/Math", name := "min", desc := "(II)I" } : Jvm.MethodName)) ∈ TB := TB_in 89 (by decide +kernel) (by decide +kernel)
theorem tb_90 : (Jvm.Cond.code ({ cls := "java/lang/Math", name := "min", desc := "(II)I" } : Jvm.MethodName) prog_10_method_69_code (2 : Nat) (Option.some Jvm.ClassFile.FieldType.int)) ∈ TB := TB_in 90 (by decide +kernel) (by decide +kernel)
theorem tb_91 : (Jvm.Cond.methodLink "WeightedForest$Forest" (30 : Nat) ({ cls := "java/lang/Math", name := "max", desc := "(II)I" } : Jvm.MethodName)) ∈ TB := TB_in 91 (by decide +kernel) (by decide +kernel)
theorem tb_92 : (Jvm.Cond.static ({ cls := "java/lang/Math", name := "max", desc := "(II)I" } : Jvm.MethodName)) ∈ TB := TB_in 92 (by decide +kernel) (by decide +kernel)
theorem tb_93 : (Jvm.Cond.code ({ cls := "java/lang/Math", name := "max", desc := "(II)I" } : Jvm.MethodName) prog_10_method_65_code (2 : Nat) (Option.some Jvm.ClassFile.FieldType.int)) ∈ TB := TB_in 93 (by decide +kernel) (by decide +kernel)
theorem tb_94 : (Jvm.Cond.methodLink "WeightedForest$Forest" (37 : Nat) ({ cls := "java/util/Arrays", name := "fill", desc := "([II)V" } : Jvm.MethodName)) ∈ TB := TB_in 94 (by decide +kernel) (by decide +kernel)
theorem tb_95 : (Jvm.Cond.static ({ cls := "java/util/Arrays", name := "fill", desc := "([II)V" } : Jvm.MethodName)) ∈ TB := TB_in 95 (by decide +kernel) (by decide +kernel)
theorem tb_96 : (Jvm.Cond.code ({ cls := "java/util/Arrays", name := "fill", desc := "([II)V" } : Jvm.MethodName) prog_12_method_103_code (4 : Nat) (Option.none : Option Jvm.ClassFile.FieldType)) ∈ TB := TB_in 96 (by decide +kernel) (by decide +kernel)
theorem tb_97 : (Jvm.Cond.fieldLink "WeightedForest$Forest" (33 : Nat) "WeightedForest$Forest" "count" "I") ∈ TB := TB_in 97 (by decide +kernel) (by decide +kernel)
theorem tb_98 : (Jvm.Cond.fieldLink "WeightedForest$Forest" (9 : Nat) "WeightedForest$Forest" "weights" "[I") ∈ TB := TB_in 98 (by decide +kernel) (by decide +kernel)
theorem tb_99 : (Jvm.Cond.fieldLink "WeightedForest$Forest" (17 : Nat) "WeightedForest$Forest" "edges" "[[I") ∈ TB := TB_in 99 (by decide +kernel) (by decide +kernel)
theorem tb_107 : (Jvm.Cond.arrayClass Jvm.ClassFile.FieldType.int) ∈ TB := TB_in 107 (by decide +kernel) (by decide +kernel)
theorem tb_108 : (Jvm.Cond.classLink "WeightedForest" (16 : Nat) "WeightedForest$Survey") ∈ TB := TB_in 108 (by decide +kernel) (by decide +kernel)
theorem tb_109 : (Jvm.Cond.instantiable "WeightedForest$Survey" (3 : Nat)) ∈ TB := TB_in 109 (by decide +kernel) (by decide +kernel)
theorem tb_110 : (Jvm.Cond.methodLink "WeightedForest" (18 : Nat) ({ cls := "WeightedForest$Survey", name := "<init>", desc := "(LWeightedForest$Forest;)V" } : Jvm.MethodName)) ∈ TB := TB_in 110 (by decide +kernel) (by decide +kernel)
theorem tb_111 : (Jvm.Cond.instanceMethod ({ cls := "WeightedForest$Survey", name := "<init>", desc := "(LWeightedForest$Forest;)V" } : Jvm.MethodName)) ∈ TB := TB_in 111 (by decide +kernel) (by decide +kernel)
theorem tb_112 : (Jvm.Cond.code ({ cls := "WeightedForest$Survey", name := "<init>", desc := "(LWeightedForest$Forest;)V" } : Jvm.MethodName) prog_7_method_1_code (2 : Nat) (Option.none : Option Jvm.ClassFile.FieldType)) ∈ TB := TB_in 112 (by decide +kernel) (by decide +kernel)
theorem tb_113 : (Jvm.Cond.methodLink "WeightedForest$Survey" (3 : Nat) ({ cls := "java/lang/Object", name := "<init>", desc := "()V" } : Jvm.MethodName)) ∈ TB := TB_in 113 (by decide +kernel) (by decide +kernel)
theorem tb_114 : (Jvm.Cond.classLink "WeightedForest$Survey" (15 : Nat) "[[I") ∈ TB := TB_in 114 (by decide +kernel) (by decide +kernel)
theorem tb_115 : (Jvm.Cond.fieldLink "WeightedForest$Survey" (9 : Nat) "WeightedForest$Survey" "forest" "LWeightedForest$Forest;") ∈ TB := TB_in 115 (by decide +kernel) (by decide +kernel)
theorem tb_116 : (Jvm.Cond.fieldLink "WeightedForest$Survey" (26 : Nat) "WeightedForest$Survey" "count" "I") ∈ TB := TB_in 116 (by decide +kernel) (by decide +kernel)
theorem tb_117 : (Jvm.Cond.fieldLink "WeightedForest$Survey" (17 : Nat) "WeightedForest$Survey" "lengths" "[[I") ∈ TB := TB_in 117 (by decide +kernel) (by decide +kernel)
theorem tb_125 : (Jvm.Cond.classLink "WeightedForest" (31 : Nat) "WeightedForest$Contraction") ∈ TB := TB_in 125 (by decide +kernel) (by decide +kernel)
theorem tb_126 : (Jvm.Cond.instantiable "WeightedForest$Contraction" (7 : Nat)) ∈ TB := TB_in 126 (by decide +kernel) (by decide +kernel)
theorem tb_127 : (Jvm.Cond.methodLink "WeightedForest" (33 : Nat) ({ cls := "WeightedForest$Contraction", name := "<init>", desc := "()V" } : Jvm.MethodName)) ∈ TB := TB_in 127 (by decide +kernel) (by decide +kernel)
theorem tb_128 : (Jvm.Cond.instanceMethod ({ cls := "WeightedForest$Contraction", name := "<init>", desc := "()V" } : Jvm.MethodName)) ∈ TB := TB_in 128 (by decide +kernel) (by decide +kernel)
theorem tb_129 : (Jvm.Cond.code ({ cls := "WeightedForest$Contraction", name := "<init>", desc := "()V" } : Jvm.MethodName) prog_2_method_1_code (1 : Nat) (Option.none : Option Jvm.ClassFile.FieldType)) ∈ TB := TB_in 129 (by decide +kernel) (by decide +kernel)
theorem tb_130 : (Jvm.Cond.methodLink "WeightedForest$Contraction" (3 : Nat) ({ cls := "java/lang/Object", name := "<init>", desc := "()V" } : Jvm.MethodName)) ∈ TB := TB_in 130 (by decide +kernel) (by decide +kernel)
theorem tb_131 : (Jvm.Cond.classLink "WeightedForest$Contraction" (22 : Nat) "[[I") ∈ TB := TB_in 131 (by decide +kernel) (by decide +kernel)
theorem tb_132 : (Jvm.Cond.fieldLink "WeightedForest$Contraction" (52 : Nat) "WeightedForest$Contraction" "count" "I") ∈ TB := TB_in 132 (by decide +kernel) (by decide +kernel)
theorem tb_133 : (Jvm.Cond.fieldLink "WeightedForest$Contraction" (39 : Nat) "WeightedForest$Contraction" "remaining" "I") ∈ TB := TB_in 133 (by decide +kernel) (by decide +kernel)
theorem tb_134 : (Jvm.Cond.fieldLink "WeightedForest$Contraction" (35 : Nat) "WeightedForest$Contraction" "round" "I") ∈ TB := TB_in 134 (by decide +kernel) (by decide +kernel)
theorem tb_135 : (Jvm.Cond.fieldLink "WeightedForest$Contraction" (9 : Nat) "WeightedForest$Contraction" "present" "[Z") ∈ TB := TB_in 135 (by decide +kernel) (by decide +kernel)
theorem tb_136 : (Jvm.Cond.fieldLink "WeightedForest$Contraction" (15 : Nat) "WeightedForest$Contraction" "raked" "[Z") ∈ TB := TB_in 136 (by decide +kernel) (by decide +kernel)
theorem tb_137 : (Jvm.Cond.fieldLink "WeightedForest$Contraction" (18 : Nat) "WeightedForest$Contraction" "removedIn" "[I") ∈ TB := TB_in 137 (by decide +kernel) (by decide +kernel)
theorem tb_138 : (Jvm.Cond.fieldLink "WeightedForest$Contraction" (24 : Nat) "WeightedForest$Contraction" "edges" "[[I") ∈ TB := TB_in 138 (by decide +kernel) (by decide +kernel)
theorem tb_154 : (Jvm.Cond.arrayClass Jvm.ClassFile.FieldType.boolean) ∈ TB := TB_in 154 (by decide +kernel) (by decide +kernel)
theorem tb_155 : (Jvm.Cond.classLink "WeightedForest" (38 : Nat) "WeightedForest$SetupText") ∈ TB := TB_in 155 (by decide +kernel) (by decide +kernel)
theorem tb_156 : (Jvm.Cond.instantiable "WeightedForest$SetupText" (4 : Nat)) ∈ TB := TB_in 156 (by decide +kernel) (by decide +kernel)
theorem tb_157 : (Jvm.Cond.methodLink "WeightedForest" (40 : Nat) ({ cls := "WeightedForest$SetupText", name := "<init>", desc := "()V" } : Jvm.MethodName)) ∈ TB := TB_in 157 (by decide +kernel) (by decide +kernel)
theorem tb_158 : (Jvm.Cond.instanceMethod ({ cls := "WeightedForest$SetupText", name := "<init>", desc := "()V" } : Jvm.MethodName)) ∈ TB := TB_in 158 (by decide +kernel) (by decide +kernel)
theorem tb_159 : (Jvm.Cond.code ({ cls := "WeightedForest$SetupText", name := "<init>", desc := "()V" } : Jvm.MethodName) prog_6_method_1_code (1 : Nat) (Option.none : Option Jvm.ClassFile.FieldType)) ∈ TB := TB_in 159 (by decide +kernel) (by decide +kernel)
theorem tb_160 : (Jvm.Cond.methodLink "WeightedForest$SetupText" (3 : Nat) ({ cls := "java/lang/Object", name := "<init>", desc := "()V" } : Jvm.MethodName)) ∈ TB := TB_in 160 (by decide +kernel) (by decide +kernel)
theorem tb_161 : (Jvm.Cond.fieldLink "WeightedForest$SetupText" (18 : Nat) "WeightedForest$SetupText" "length" "I") ∈ TB := TB_in 161 (by decide +kernel) (by decide +kernel)
theorem tb_162 : (Jvm.Cond.fieldLink "WeightedForest$SetupText" (11 : Nat) "WeightedForest$SetupText" "signs" "[I") ∈ TB := TB_in 162 (by decide +kernel) (by decide +kernel)
theorem tb_163 : (Jvm.Cond.fieldLink "WeightedForest$SetupText" (22 : Nat) "WeightedForest$SetupText" "place" "I") ∈ TB := TB_in 163 (by decide +kernel) (by decide +kernel)
theorem tb_164 : (Jvm.Cond.fieldLink "WeightedForest$SetupText" (15 : Nat) "WeightedForest$SetupText" "treeMarks" "[I") ∈ TB := TB_in 164 (by decide +kernel) (by decide +kernel)
theorem tb_174 : (Jvm.Cond.classLink "WeightedForest" (45 : Nat) "WeightedForest$History") ∈ TB := TB_in 174 (by decide +kernel) (by decide +kernel)
theorem tb_175 : (Jvm.Cond.instantiable "WeightedForest$History" (3 : Nat)) ∈ TB := TB_in 175 (by decide +kernel) (by decide +kernel)
theorem tb_176 : (Jvm.Cond.methodLink "WeightedForest" (47 : Nat) ({ cls := "WeightedForest$History", name := "<init>", desc := "()V" } : Jvm.MethodName)) ∈ TB := TB_in 176 (by decide +kernel) (by decide +kernel)
theorem tb_177 : (Jvm.Cond.instanceMethod ({ cls := "WeightedForest$History", name := "<init>", desc := "()V" } : Jvm.MethodName)) ∈ TB := TB_in 177 (by decide +kernel) (by decide +kernel)
theorem tb_178 : (Jvm.Cond.code ({ cls := "WeightedForest$History", name := "<init>", desc := "()V" } : Jvm.MethodName) prog_4_method_1_code (2 : Nat) (Option.none : Option Jvm.ClassFile.FieldType)) ∈ TB := TB_in 178 (by decide +kernel) (by decide +kernel)
theorem tb_179 : (Jvm.Cond.methodLink "WeightedForest$History" (1 : Nat) ({ cls := "java/lang/Object", name := "<init>", desc := "()V" } : Jvm.MethodName)) ∈ TB := TB_in 179 (by decide +kernel) (by decide +kernel)
theorem tb_180 : (Jvm.Cond.classLink "WeightedForest$History" (9 : Nat) "WeightedForest$Forest") ∈ TB := TB_in 180 (by decide +kernel) (by decide +kernel)
theorem tb_182 : (Jvm.Cond.methodLink "WeightedForest$History" (15 : Nat) ({ cls := "WeightedForest$Forest", name := "<init>", desc := "()V" } : Jvm.MethodName)) ∈ TB := TB_in 182 (by decide +kernel) (by decide +kernel)
theorem tb_183 : (Jvm.Cond.fieldLink "WeightedForest$History" (11 : Nat) "WeightedForest$History" "states" "[LWeightedForest$Forest;") ∈ TB := TB_in 183 (by decide +kernel) (by decide +kernel)
theorem tb_184 : (Jvm.Cond.fieldLink "WeightedForest$History" (20 : Nat) "WeightedForest$History" "next" "I") ∈ TB := TB_in 184 (by decide +kernel) (by decide +kernel)
theorem tb_185 : (Jvm.Cond.fieldLink "WeightedForest$History" (16 : Nat) "WeightedForest$History" "count" "I") ∈ TB := TB_in 185 (by decide +kernel) (by decide +kernel)
theorem tb_193 : (Jvm.Cond.classLink "WeightedForest" (52 : Nat) "WeightedForest$Observations") ∈ TB := TB_in 193 (by decide +kernel) (by decide +kernel)
theorem tb_194 : (Jvm.Cond.instantiable "WeightedForest$Observations" (5 : Nat)) ∈ TB := TB_in 194 (by decide +kernel) (by decide +kernel)
theorem tb_195 : (Jvm.Cond.methodLink "WeightedForest" (54 : Nat) ({ cls := "WeightedForest$Observations", name := "<init>", desc := "()V" } : Jvm.MethodName)) ∈ TB := TB_in 195 (by decide +kernel) (by decide +kernel)
theorem tb_196 : (Jvm.Cond.instanceMethod ({ cls := "WeightedForest$Observations", name := "<init>", desc := "()V" } : Jvm.MethodName)) ∈ TB := TB_in 196 (by decide +kernel) (by decide +kernel)
theorem tb_197 : (Jvm.Cond.code ({ cls := "WeightedForest$Observations", name := "<init>", desc := "()V" } : Jvm.MethodName) prog_5_method_1_code (1 : Nat) (Option.none : Option Jvm.ClassFile.FieldType)) ∈ TB := TB_in 197 (by decide +kernel) (by decide +kernel)
theorem tb_198 : (Jvm.Cond.methodLink "WeightedForest$Observations" (3 : Nat) ({ cls := "java/lang/Object", name := "<init>", desc := "()V" } : Jvm.MethodName)) ∈ TB := TB_in 198 (by decide +kernel) (by decide +kernel)
theorem tb_199 : (Jvm.Cond.fieldLink "WeightedForest$Observations" (11 : Nat) "WeightedForest$Observations" "starts" "[I") ∈ TB := TB_in 199 (by decide +kernel) (by decide +kernel)
theorem tb_200 : (Jvm.Cond.fieldLink "WeightedForest$Observations" (15 : Nat) "WeightedForest$Observations" "ends" "[I") ∈ TB := TB_in 200 (by decide +kernel) (by decide +kernel)
theorem tb_201 : (Jvm.Cond.fieldLink "WeightedForest$Observations" (18 : Nat) "WeightedForest$Observations" "lengths" "[I") ∈ TB := TB_in 201 (by decide +kernel) (by decide +kernel)
theorem tb_202 : (Jvm.Cond.fieldLink "WeightedForest$Observations" (21 : Nat) "WeightedForest$Observations" "next" "I") ∈ TB := TB_in 202 (by decide +kernel) (by decide +kernel)
theorem tb_203 : (Jvm.Cond.fieldLink "WeightedForest$Observations" (25 : Nat) "WeightedForest$Observations" "count" "I") ∈ TB := TB_in 203 (by decide +kernel) (by decide +kernel)
theorem tb_215 : (Jvm.Cond.fieldLink "WeightedForest" (10 : Nat) "WeightedForest" "forest" "LWeightedForest$Forest;") ∈ TB := TB_in 215 (by decide +kernel) (by decide +kernel)
theorem tb_216 : (Jvm.Cond.fieldLink "WeightedForest" (21 : Nat) "WeightedForest" "survey" "LWeightedForest$Survey;") ∈ TB := TB_in 216 (by decide +kernel) (by decide +kernel)
theorem tb_217 : (Jvm.Cond.fieldLink "WeightedForest" (25 : Nat) "WeightedForest" "trial" "LWeightedForest$Forest;") ∈ TB := TB_in 217 (by decide +kernel) (by decide +kernel)
theorem tb_218 : (Jvm.Cond.fieldLink "WeightedForest" (28 : Nat) "WeightedForest" "trialSurvey" "LWeightedForest$Survey;") ∈ TB := TB_in 218 (by decide +kernel) (by decide +kernel)
theorem tb_219 : (Jvm.Cond.fieldLink "WeightedForest" (34 : Nat) "WeightedForest" "contraction" "LWeightedForest$Contraction;") ∈ TB := TB_in 219 (by decide +kernel) (by decide +kernel)
theorem tb_220 : (Jvm.Cond.fieldLink "WeightedForest" (41 : Nat) "WeightedForest" "text" "LWeightedForest$SetupText;") ∈ TB := TB_in 220 (by decide +kernel) (by decide +kernel)
theorem tb_221 : (Jvm.Cond.fieldLink "WeightedForest" (48 : Nat) "WeightedForest" "history" "LWeightedForest$History;") ∈ TB := TB_in 221 (by decide +kernel) (by decide +kernel)
theorem tb_222 : (Jvm.Cond.fieldLink "WeightedForest" (55 : Nat) "WeightedForest" "observations" "LWeightedForest$Observations;") ∈ TB := TB_in 222 (by decide +kernel) (by decide +kernel)
theorem tb_223 : (Jvm.Cond.fieldLink "WeightedForest" (59 : Nat) "WeightedForest" "slots" "[LWeightedForest$Forest;") ∈ TB := TB_in 223 (by decide +kernel) (by decide +kernel)
theorem tb_224 : (Jvm.Cond.fieldLink "WeightedForest" (63 : Nat) "WeightedForest" "filled" "[Z") ∈ TB := TB_in 224 (by decide +kernel) (by decide +kernel)
theorem tb_246 : (Jvm.Cond.methodLink "WeightedForestLaw" (13 : Nat) ({ cls := "WeightedForest", name := "append", desc := "(I)I" } : Jvm.MethodName)) ∈ TB := TB_in 246 (by decide +kernel) (by decide +kernel)
theorem tb_247 : (Jvm.Cond.instanceMethod ({ cls := "WeightedForest", name := "append", desc := "(I)I" } : Jvm.MethodName)) ∈ TB := TB_in 247 (by decide +kernel) (by decide +kernel)
theorem tb_248 : (Jvm.Cond.selects "WeightedForest" ({ cls := "WeightedForest", name := "append", desc := "(I)I" } : Jvm.MethodName) ({ cls := "WeightedForest", name := "append", desc := "(I)I" } : Jvm.MethodName)) ∈ TB := TB_in 248 (by decide +kernel) (by decide +kernel)
theorem tb_249 : (Jvm.Cond.code ({ cls := "WeightedForest", name := "append", desc := "(I)I" } : Jvm.MethodName) prog_1_method_2_code (2 : Nat) (Option.some Jvm.ClassFile.FieldType.int)) ∈ TB := TB_in 249 (by decide +kernel) (by decide +kernel)
theorem tb_250 : (Jvm.Cond.methodLink "WeightedForest" (67 : Nat) ({ cls := "WeightedForest$SetupText", name := "put", desc := "(I)Z" } : Jvm.MethodName)) ∈ TB := TB_in 250 (by decide +kernel) (by decide +kernel)
theorem tb_251 : (Jvm.Cond.instanceMethod ({ cls := "WeightedForest$SetupText", name := "put", desc := "(I)Z" } : Jvm.MethodName)) ∈ TB := TB_in 251 (by decide +kernel) (by decide +kernel)
theorem tb_252 : (Jvm.Cond.selects "WeightedForest$SetupText" ({ cls := "WeightedForest$SetupText", name := "put", desc := "(I)Z" } : Jvm.MethodName) ({ cls := "WeightedForest$SetupText", name := "put", desc := "(I)Z" } : Jvm.MethodName)) ∈ TB := TB_in 252 (by decide +kernel) (by decide +kernel)
theorem tb_253 : (Jvm.Cond.code ({ cls := "WeightedForest$SetupText", name := "put", desc := "(I)Z" } : Jvm.MethodName) prog_6_method_3_code (2 : Nat) (Option.some Jvm.ClassFile.FieldType.boolean)) ∈ TB := TB_in 253 (by decide +kernel) (by decide +kernel)
theorem tb_254 : (Jvm.Cond.methodLink "WeightedForest" (71 : Nat) ({ cls := "WeightedForest$SetupText", name := "size", desc := "()I" } : Jvm.MethodName)) ∈ TB := TB_in 254 (by decide +kernel) (by decide +kernel)
theorem tb_255 : (Jvm.Cond.instanceMethod ({ cls := "WeightedForest$SetupText", name := "size", desc := "()I" } : Jvm.MethodName)) ∈ TB := TB_in 255 (by decide +kernel) (by decide +kernel)
theorem tb_256 : (Jvm.Cond.selects "WeightedForest$SetupText" ({ cls := "WeightedForest$SetupText", name := "size", desc := "()I" } : Jvm.MethodName) ({ cls := "WeightedForest$SetupText", name := "size", desc := "()I" } : Jvm.MethodName)) ∈ TB := TB_in 256 (by decide +kernel) (by decide +kernel)
theorem tb_257 : (Jvm.Cond.code ({ cls := "WeightedForest$SetupText", name := "size", desc := "()I" } : Jvm.MethodName) prog_6_method_2_code (1 : Nat) (Option.some Jvm.ClassFile.FieldType.int)) ∈ TB := TB_in 257 (by decide +kernel) (by decide +kernel)
theorem tb_258 : (Jvm.Cond.methodLink "WeightedForestLaw" (18 : Nat) ({ cls := "WeightedForest", name := "clearText", desc := "()I" } : Jvm.MethodName)) ∈ TB := TB_in 258 (by decide +kernel) (by decide +kernel)
theorem tb_259 : (Jvm.Cond.instanceMethod ({ cls := "WeightedForest", name := "clearText", desc := "()I" } : Jvm.MethodName)) ∈ TB := TB_in 259 (by decide +kernel) (by decide +kernel)
theorem tb_260 : (Jvm.Cond.selects "WeightedForest" ({ cls := "WeightedForest", name := "clearText", desc := "()I" } : Jvm.MethodName) ({ cls := "WeightedForest", name := "clearText", desc := "()I" } : Jvm.MethodName)) ∈ TB := TB_in 260 (by decide +kernel) (by decide +kernel)
theorem tb_261 : (Jvm.Cond.code ({ cls := "WeightedForest", name := "clearText", desc := "()I" } : Jvm.MethodName) prog_1_method_3_code (2 : Nat) (Option.some Jvm.ClassFile.FieldType.int)) ∈ TB := TB_in 261 (by decide +kernel) (by decide +kernel)
theorem tb_262 : (Jvm.Cond.methodLink "WeightedForest" (75 : Nat) ({ cls := "WeightedForest$SetupText", name := "empty", desc := "()V" } : Jvm.MethodName)) ∈ TB := TB_in 262 (by decide +kernel) (by decide +kernel)
theorem tb_263 : (Jvm.Cond.instanceMethod ({ cls := "WeightedForest$SetupText", name := "empty", desc := "()V" } : Jvm.MethodName)) ∈ TB := TB_in 263 (by decide +kernel) (by decide +kernel)
theorem tb_264 : (Jvm.Cond.selects "WeightedForest$SetupText" ({ cls := "WeightedForest$SetupText", name := "empty", desc := "()V" } : Jvm.MethodName) ({ cls := "WeightedForest$SetupText", name := "empty", desc := "()V" } : Jvm.MethodName)) ∈ TB := TB_in 264 (by decide +kernel) (by decide +kernel)
theorem tb_265 : (Jvm.Cond.code ({ cls := "WeightedForest$SetupText", name := "empty", desc := "()V" } : Jvm.MethodName) prog_6_method_4_code (1 : Nat) (Option.none : Option Jvm.ClassFile.FieldType)) ∈ TB := TB_in 265 (by decide +kernel) (by decide +kernel)
theorem tb_266 : (Jvm.Cond.methodLink "WeightedForestLaw" (23 : Nat) ({ cls := "WeightedForest", name := "errorPosition", desc := "()I" } : Jvm.MethodName)) ∈ TB := TB_in 266 (by decide +kernel) (by decide +kernel)
theorem tb_267 : (Jvm.Cond.instanceMethod ({ cls := "WeightedForest", name := "errorPosition", desc := "()I" } : Jvm.MethodName)) ∈ TB := TB_in 267 (by decide +kernel) (by decide +kernel)
theorem tb_268 : (Jvm.Cond.selects "WeightedForest" ({ cls := "WeightedForest", name := "errorPosition", desc := "()I" } : Jvm.MethodName) ({ cls := "WeightedForest", name := "errorPosition", desc := "()I" } : Jvm.MethodName)) ∈ TB := TB_in 268 (by decide +kernel) (by decide +kernel)
theorem tb_269 : (Jvm.Cond.code ({ cls := "WeightedForest", name := "errorPosition", desc := "()I" } : Jvm.MethodName) prog_1_method_4_code (1 : Nat) (Option.some Jvm.ClassFile.FieldType.int)) ∈ TB := TB_in 269 (by decide +kernel) (by decide +kernel)
theorem tb_270 : (Jvm.Cond.methodLink "WeightedForest" (78 : Nat) ({ cls := "WeightedForest$SetupText", name := "readInto", desc := "(LWeightedForest$Forest;)I" } : Jvm.MethodName)) ∈ TB := TB_in 270 (by decide +kernel) (by decide +kernel)
theorem tb_271 : (Jvm.Cond.instanceMethod ({ cls := "WeightedForest$SetupText", name := "readInto", desc := "(LWeightedForest$Forest;)I" } : Jvm.MethodName)) ∈ TB := TB_in 271 (by decide +kernel) (by decide +kernel)
theorem tb_272 : (Jvm.Cond.selects "WeightedForest$SetupText" ({ cls := "WeightedForest$SetupText", name := "readInto", desc := "(LWeightedForest$Forest;)I" } : Jvm.MethodName) ({ cls := "WeightedForest$SetupText", name := "readInto", desc := "(LWeightedForest$Forest;)I" } : Jvm.MethodName)) ∈ TB := TB_in 272 (by decide +kernel) (by decide +kernel)
theorem tb_273 : (Jvm.Cond.code ({ cls := "WeightedForest$SetupText", name := "readInto", desc := "(LWeightedForest$Forest;)I" } : Jvm.MethodName) prog_6_method_5_code (3 : Nat) (Option.some Jvm.ClassFile.FieldType.int)) ∈ TB := TB_in 273 (by decide +kernel) (by decide +kernel)
theorem tb_274 : (Jvm.Cond.methodLink "WeightedForest$SetupText" (25 : Nat) ({ cls := "WeightedForest$SetupText", name := "take", desc := "(II)I" } : Jvm.MethodName)) ∈ TB := TB_in 274 (by decide +kernel) (by decide +kernel)
theorem tb_276 : (Jvm.Cond.instanceMethod ({ cls := "WeightedForest$SetupText", name := "take", desc := "(II)I" } : Jvm.MethodName)) ∈ TB := TB_in 276 (by decide +kernel) (by decide +kernel)
theorem tb_277 : (Jvm.Cond.code ({ cls := "WeightedForest$SetupText", name := "take", desc := "(II)I" } : Jvm.MethodName) prog_6_method_11_code (4 : Nat) (Option.some Jvm.ClassFile.FieldType.int)) ∈ TB := TB_in 277 (by decide +kernel) (by decide +kernel)
theorem tb_278 : (Jvm.Cond.methodLink "WeightedForest$SetupText" (29 : Nat) ({ cls := "WeightedForest$SetupText", name := "takeNumber", desc := "(II)I" } : Jvm.MethodName)) ∈ TB := TB_in 278 (by decide +kernel) (by decide +kernel)
theorem tb_280 : (Jvm.Cond.instanceMethod ({ cls := "WeightedForest$SetupText", name := "takeNumber", desc := "(II)I" } : Jvm.MethodName)) ∈ TB := TB_in 280 (by decide +kernel) (by decide +kernel)
theorem tb_281 : (Jvm.Cond.code ({ cls := "WeightedForest$SetupText", name := "takeNumber", desc := "(II)I" } : Jvm.MethodName) prog_6_method_10_code (7 : Nat) (Option.some Jvm.ClassFile.FieldType.int)) ∈ TB := TB_in 281 (by decide +kernel) (by decide +kernel)
theorem tb_282 : (Jvm.Cond.methodLink "WeightedForest$SetupText" (32 : Nat) ({ cls := "WeightedForest$Forest", name := "reset", desc := "(I)V" } : Jvm.MethodName)) ∈ TB := TB_in 282 (by decide +kernel) (by decide +kernel)
theorem tb_283 : (Jvm.Cond.methodLink "WeightedForest$SetupText" (38 : Nat) ({ cls := "WeightedForest$SetupText", name := "takeWeights", desc := "(LWeightedForest$Forest;)Z" } : Jvm.MethodName)) ∈ TB := TB_in 283 (by decide +kernel) (by decide +kernel)
theorem tb_285 : (Jvm.Cond.instanceMethod ({ cls := "WeightedForest$SetupText", name := "takeWeights", desc := "(LWeightedForest$Forest;)Z" } : Jvm.MethodName)) ∈ TB := TB_in 285 (by decide +kernel) (by decide +kernel)
theorem tb_286 : (Jvm.Cond.code ({ cls := "WeightedForest$SetupText", name := "takeWeights", desc := "(LWeightedForest$Forest;)Z" } : Jvm.MethodName) prog_6_method_6_code (4 : Nat) (Option.some Jvm.ClassFile.FieldType.boolean)) ∈ TB := TB_in 286 (by decide +kernel) (by decide +kernel)
theorem tb_287 : (Jvm.Cond.methodLink "WeightedForest$SetupText" (45 : Nat) ({ cls := "WeightedForest$Forest", name := "vertices", desc := "()I" } : Jvm.MethodName)) ∈ TB := TB_in 287 (by decide +kernel) (by decide +kernel)
theorem tb_288 : (Jvm.Cond.instanceMethod ({ cls := "WeightedForest$Forest", name := "vertices", desc := "()I" } : Jvm.MethodName)) ∈ TB := TB_in 288 (by decide +kernel) (by decide +kernel)
theorem tb_289 : (Jvm.Cond.selects "WeightedForest$Forest" ({ cls := "WeightedForest$Forest", name := "vertices", desc := "()I" } : Jvm.MethodName) ({ cls := "WeightedForest$Forest", name := "vertices", desc := "()I" } : Jvm.MethodName)) ∈ TB := TB_in 289 (by decide +kernel) (by decide +kernel)
theorem tb_290 : (Jvm.Cond.code ({ cls := "WeightedForest$Forest", name := "vertices", desc := "()I" } : Jvm.MethodName) prog_3_method_4_code (1 : Nat) (Option.some Jvm.ClassFile.FieldType.int)) ∈ TB := TB_in 290 (by decide +kernel) (by decide +kernel)
theorem tb_291 : (Jvm.Cond.methodLink "WeightedForest$SetupText" (49 : Nat) ({ cls := "WeightedForest$Forest", name := "putWeight", desc := "(II)V" } : Jvm.MethodName)) ∈ TB := TB_in 291 (by decide +kernel) (by decide +kernel)
theorem tb_292 : (Jvm.Cond.instanceMethod ({ cls := "WeightedForest$Forest", name := "putWeight", desc := "(II)V" } : Jvm.MethodName)) ∈ TB := TB_in 292 (by decide +kernel) (by decide +kernel)
theorem tb_293 : (Jvm.Cond.selects "WeightedForest$Forest" ({ cls := "WeightedForest$Forest", name := "putWeight", desc := "(II)V" } : Jvm.MethodName) ({ cls := "WeightedForest$Forest", name := "putWeight", desc := "(II)V" } : Jvm.MethodName)) ∈ TB := TB_in 293 (by decide +kernel) (by decide +kernel)
theorem tb_294 : (Jvm.Cond.code ({ cls := "WeightedForest$Forest", name := "putWeight", desc := "(II)V" } : Jvm.MethodName) prog_3_method_8_code (3 : Nat) (Option.none : Option Jvm.ClassFile.FieldType)) ∈ TB := TB_in 294 (by decide +kernel) (by decide +kernel)
theorem tb_295 : (Jvm.Cond.methodLink "WeightedForest$Forest" (49 : Nat) ({ cls := "WeightedForest$Forest", name := "hasVertex", desc := "(I)Z" } : Jvm.MethodName)) ∈ TB := TB_in 295 (by decide +kernel) (by decide +kernel)
theorem tb_296 : (Jvm.Cond.instanceMethod ({ cls := "WeightedForest$Forest", name := "hasVertex", desc := "(I)Z" } : Jvm.MethodName)) ∈ TB := TB_in 296 (by decide +kernel) (by decide +kernel)
theorem tb_297 : (Jvm.Cond.selects "WeightedForest$Forest" ({ cls := "WeightedForest$Forest", name := "hasVertex", desc := "(I)Z" } : Jvm.MethodName) ({ cls := "WeightedForest$Forest", name := "hasVertex", desc := "(I)Z" } : Jvm.MethodName)) ∈ TB := TB_in 297 (by decide +kernel) (by decide +kernel)
theorem tb_298 : (Jvm.Cond.code ({ cls := "WeightedForest$Forest", name := "hasVertex", desc := "(I)Z" } : Jvm.MethodName) prog_3_method_5_code (2 : Nat) (Option.some Jvm.ClassFile.FieldType.boolean)) ∈ TB := TB_in 298 (by decide +kernel) (by decide +kernel)
theorem tb_299 : (Jvm.Cond.methodLink "WeightedForest$SetupText" (42 : Nat) ({ cls := "WeightedForest$SetupText", name := "takeEdges", desc := "(LWeightedForest$Forest;)Z" } : Jvm.MethodName)) ∈ TB := TB_in 299 (by decide +kernel) (by decide +kernel)
theorem tb_301 : (Jvm.Cond.instanceMethod ({ cls := "WeightedForest$SetupText", name := "takeEdges", desc := "(LWeightedForest$Forest;)Z" } : Jvm.MethodName)) ∈ TB := TB_in 301 (by decide +kernel) (by decide +kernel)
theorem tb_302 : (Jvm.Cond.code ({ cls := "WeightedForest$SetupText", name := "takeEdges", desc := "(LWeightedForest$Forest;)Z" } : Jvm.MethodName) prog_6_method_7_code (3 : Nat) (Option.some Jvm.ClassFile.FieldType.boolean)) ∈ TB := TB_in 302 (by decide +kernel) (by decide +kernel)
theorem tb_303 : (Jvm.Cond.methodLink "WeightedForest$SetupText" (53 : Nat) ({ cls := "WeightedForest$SetupText", name := "takeEdge", desc := "(LWeightedForest$Forest;)Z" } : Jvm.MethodName)) ∈ TB := TB_in 303 (by decide +kernel) (by decide +kernel)
theorem tb_305 : (Jvm.Cond.instanceMethod ({ cls := "WeightedForest$SetupText", name := "takeEdge", desc := "(LWeightedForest$Forest;)Z" } : Jvm.MethodName)) ∈ TB := TB_in 305 (by decide +kernel) (by decide +kernel)
theorem tb_306 : (Jvm.Cond.code ({ cls := "WeightedForest$SetupText", name := "takeEdge", desc := "(LWeightedForest$Forest;)Z" } : Jvm.MethodName) prog_6_method_8_code (6 : Nat) (Option.some Jvm.ClassFile.FieldType.boolean)) ∈ TB := TB_in 306 (by decide +kernel) (by decide +kernel)
theorem tb_307 : (Jvm.Cond.methodLink "WeightedForest$SetupText" (56 : Nat) ({ cls := "WeightedForest$Forest", name := "putEdge", desc := "(III)V" } : Jvm.MethodName)) ∈ TB := TB_in 307 (by decide +kernel) (by decide +kernel)
theorem tb_308 : (Jvm.Cond.instanceMethod ({ cls := "WeightedForest$Forest", name := "putEdge", desc := "(III)V" } : Jvm.MethodName)) ∈ TB := TB_in 308 (by decide +kernel) (by decide +kernel)
theorem tb_309 : (Jvm.Cond.selects "WeightedForest$Forest" ({ cls := "WeightedForest$Forest", name := "putEdge", desc := "(III)V" } : Jvm.MethodName) ({ cls := "WeightedForest$Forest", name := "putEdge", desc := "(III)V" } : Jvm.MethodName)) ∈ TB := TB_in 309 (by decide +kernel) (by decide +kernel)
theorem tb_310 : (Jvm.Cond.code ({ cls := "WeightedForest$Forest", name := "putEdge", desc := "(III)V" } : Jvm.MethodName) prog_3_method_11_code (4 : Nat) (Option.none : Option Jvm.ClassFile.FieldType)) ∈ TB := TB_in 310 (by decide +kernel) (by decide +kernel)
theorem tb_311 : (Jvm.Cond.methodLink "WeightedForest$Forest" (56 : Nat) ({ cls := "WeightedForest$Forest", name := "hasVertices", desc := "(II)Z" } : Jvm.MethodName)) ∈ TB := TB_in 311 (by decide +kernel) (by decide +kernel)
theorem tb_312 : (Jvm.Cond.instanceMethod ({ cls := "WeightedForest$Forest", name := "hasVertices", desc := "(II)Z" } : Jvm.MethodName)) ∈ TB := TB_in 312 (by decide +kernel) (by decide +kernel)
theorem tb_313 : (Jvm.Cond.selects "WeightedForest$Forest" ({ cls := "WeightedForest$Forest", name := "hasVertices", desc := "(II)Z" } : Jvm.MethodName) ({ cls := "WeightedForest$Forest", name := "hasVertices", desc := "(II)Z" } : Jvm.MethodName)) ∈ TB := TB_in 313 (by decide +kernel) (by decide +kernel)
theorem tb_314 : (Jvm.Cond.code ({ cls := "WeightedForest$Forest", name := "hasVertices", desc := "(II)Z" } : Jvm.MethodName) prog_3_method_6_code (3 : Nat) (Option.some Jvm.ClassFile.FieldType.boolean)) ∈ TB := TB_in 314 (by decide +kernel) (by decide +kernel)
theorem tb_315 : (Jvm.Cond.methodLink "WeightedForest$SetupText" (60 : Nat) ({ cls := "WeightedForest$SetupText", name := "joinTrees", desc := "(II)V" } : Jvm.MethodName)) ∈ TB := TB_in 315 (by decide +kernel) (by decide +kernel)
theorem tb_317 : (Jvm.Cond.instanceMethod ({ cls := "WeightedForest$SetupText", name := "joinTrees", desc := "(II)V" } : Jvm.MethodName)) ∈ TB := TB_in 317 (by decide +kernel) (by decide +kernel)
theorem tb_318 : (Jvm.Cond.code ({ cls := "WeightedForest$SetupText", name := "joinTrees", desc := "(II)V" } : Jvm.MethodName) prog_6_method_9_code (4 : Nat) (Option.none : Option Jvm.ClassFile.FieldType)) ∈ TB := TB_in 318 (by decide +kernel) (by decide +kernel)
theorem tb_319 : (Jvm.Cond.methodLink "WeightedForestLaw" (27 : Nat) ({ cls := "WeightedForest", name := "load", desc := "()I" } : Jvm.MethodName)) ∈ TB := TB_in 319 (by decide +kernel) (by decide +kernel)
theorem tb_320 : (Jvm.Cond.instanceMethod ({ cls := "WeightedForest", name := "load", desc := "()I" } : Jvm.MethodName)) ∈ TB := TB_in 320 (by decide +kernel) (by decide +kernel)
theorem tb_321 : (Jvm.Cond.selects "WeightedForest" ({ cls := "WeightedForest", name := "load", desc := "()I" } : Jvm.MethodName) ({ cls := "WeightedForest", name := "load", desc := "()I" } : Jvm.MethodName)) ∈ TB := TB_in 321 (by decide +kernel) (by decide +kernel)
theorem tb_322 : (Jvm.Cond.code ({ cls := "WeightedForest", name := "load", desc := "()I" } : Jvm.MethodName) prog_1_method_5_code (1 : Nat) (Option.some Jvm.ClassFile.FieldType.int)) ∈ TB := TB_in 322 (by decide +kernel) (by decide +kernel)
theorem tb_323 : (Jvm.Cond.methodLink "WeightedForest" (82 : Nat) ({ cls := "WeightedForest$Forest", name := "become", desc := "(LWeightedForest$Forest;)V" } : Jvm.MethodName)) ∈ TB := TB_in 323 (by decide +kernel) (by decide +kernel)
theorem tb_324 : (Jvm.Cond.instanceMethod ({ cls := "WeightedForest$Forest", name := "become", desc := "(LWeightedForest$Forest;)V" } : Jvm.MethodName)) ∈ TB := TB_in 324 (by decide +kernel) (by decide +kernel)
theorem tb_325 : (Jvm.Cond.selects "WeightedForest$Forest" ({ cls := "WeightedForest$Forest", name := "become", desc := "(LWeightedForest$Forest;)V" } : Jvm.MethodName) ({ cls := "WeightedForest$Forest", name := "become", desc := "(LWeightedForest$Forest;)V" } : Jvm.MethodName)) ∈ TB := TB_in 325 (by decide +kernel) (by decide +kernel)
theorem tb_326 : (Jvm.Cond.code ({ cls := "WeightedForest$Forest", name := "become", desc := "(LWeightedForest$Forest;)V" } : Jvm.MethodName) prog_3_method_3_code (3 : Nat) (Option.none : Option Jvm.ClassFile.FieldType)) ∈ TB := TB_in 326 (by decide +kernel) (by decide +kernel)
theorem tb_327 : (Jvm.Cond.methodLink "WeightedForest$Forest" (43 : Nat) ({ cls := "java/lang/System", name := "arraycopy", desc := "(Ljava/lang/Object;ILjava/lang/Object;II)V" } : Jvm.MethodName)) ∈ TB := TB_in 327 (by decide +kernel) (by decide +kernel)
theorem tb_328 : (Jvm.Cond.static ({ cls := "java/lang/System", name := "arraycopy", desc := "(Ljava/lang/Object;ILjava/lang/Object;II)V" } : Jvm.MethodName)) ∈ TB := TB_in 328 (by decide +kernel) (by decide +kernel)
theorem tb_329 : (Jvm.Cond.native ({ cls := "java/lang/System", name := "arraycopy", desc := "(Ljava/lang/Object;ILjava/lang/Object;II)V" } : Jvm.MethodName)) ∈ TB := TB_in 329 (by decide +kernel) (by decide +kernel)
theorem tb_330 : (Jvm.Cond.methodLink "WeightedForest" (85 : Nat) ({ cls := "WeightedForest$History", name := "forget", desc := "()V" } : Jvm.MethodName)) ∈ TB := TB_in 330 (by decide +kernel) (by decide +kernel)
theorem tb_331 : (Jvm.Cond.instanceMethod ({ cls := "WeightedForest$History", name := "forget", desc := "()V" } : Jvm.MethodName)) ∈ TB := TB_in 331 (by decide +kernel) (by decide +kernel)
theorem tb_332 : (Jvm.Cond.selects "WeightedForest$History" ({ cls := "WeightedForest$History", name := "forget", desc := "()V" } : Jvm.MethodName) ({ cls := "WeightedForest$History", name := "forget", desc := "()V" } : Jvm.MethodName)) ∈ TB := TB_in 332 (by decide +kernel) (by decide +kernel)
theorem tb_333 : (Jvm.Cond.code ({ cls := "WeightedForest$History", name := "forget", desc := "()V" } : Jvm.MethodName) prog_4_method_5_code (1 : Nat) (Option.none : Option Jvm.ClassFile.FieldType)) ∈ TB := TB_in 333 (by decide +kernel) (by decide +kernel)
theorem tb_334 : (Jvm.Cond.methodLink "WeightedForest" (88 : Nat) ({ cls := "WeightedForest", name := "emptySlots", desc := "()V" } : Jvm.MethodName)) ∈ TB := TB_in 334 (by decide +kernel) (by decide +kernel)
theorem tb_336 : (Jvm.Cond.instanceMethod ({ cls := "WeightedForest", name := "emptySlots", desc := "()V" } : Jvm.MethodName)) ∈ TB := TB_in 336 (by decide +kernel) (by decide +kernel)
theorem tb_337 : (Jvm.Cond.code ({ cls := "WeightedForest", name := "emptySlots", desc := "()V" } : Jvm.MethodName) prog_1_method_6_code (2 : Nat) (Option.none : Option Jvm.ClassFile.FieldType)) ∈ TB := TB_in 337 (by decide +kernel) (by decide +kernel)
theorem tb_338 : (Jvm.Cond.methodLink "WeightedForest" (91 : Nat) ({ cls := "WeightedForest$Forest", name := "edgeCount", desc := "()I" } : Jvm.MethodName)) ∈ TB := TB_in 338 (by decide +kernel) (by decide +kernel)
theorem tb_339 : (Jvm.Cond.instanceMethod ({ cls := "WeightedForest$Forest", name := "edgeCount", desc := "()I" } : Jvm.MethodName)) ∈ TB := TB_in 339 (by decide +kernel) (by decide +kernel)
theorem tb_340 : (Jvm.Cond.selects "WeightedForest$Forest" ({ cls := "WeightedForest$Forest", name := "edgeCount", desc := "()I" } : Jvm.MethodName) ({ cls := "WeightedForest$Forest", name := "edgeCount", desc := "()I" } : Jvm.MethodName)) ∈ TB := TB_in 340 (by decide +kernel) (by decide +kernel)
theorem tb_341 : (Jvm.Cond.code ({ cls := "WeightedForest$Forest", name := "edgeCount", desc := "()I" } : Jvm.MethodName) prog_3_method_12_code (4 : Nat) (Option.some Jvm.ClassFile.FieldType.int)) ∈ TB := TB_in 341 (by decide +kernel) (by decide +kernel)
theorem tb_342 : (Jvm.Cond.methodLink "WeightedForest$Forest" (60 : Nat) ({ cls := "WeightedForest$Forest", name := "hasEdge", desc := "(II)Z" } : Jvm.MethodName)) ∈ TB := TB_in 342 (by decide +kernel) (by decide +kernel)
theorem tb_343 : (Jvm.Cond.instanceMethod ({ cls := "WeightedForest$Forest", name := "hasEdge", desc := "(II)Z" } : Jvm.MethodName)) ∈ TB := TB_in 343 (by decide +kernel) (by decide +kernel)
theorem tb_344 : (Jvm.Cond.selects "WeightedForest$Forest" ({ cls := "WeightedForest$Forest", name := "hasEdge", desc := "(II)Z" } : Jvm.MethodName) ({ cls := "WeightedForest$Forest", name := "hasEdge", desc := "(II)Z" } : Jvm.MethodName)) ∈ TB := TB_in 344 (by decide +kernel) (by decide +kernel)
theorem tb_345 : (Jvm.Cond.code ({ cls := "WeightedForest$Forest", name := "hasEdge", desc := "(II)Z" } : Jvm.MethodName) prog_3_method_9_code (3 : Nat) (Option.some Jvm.ClassFile.FieldType.boolean)) ∈ TB := TB_in 345 (by decide +kernel) (by decide +kernel)
theorem tb_346 : (Jvm.Cond.methodLink "WeightedForest$Forest" (53 : Nat) ({ cls := "WeightedForest$Forest", name := "edgeBetween", desc := "(II)I" } : Jvm.MethodName)) ∈ TB := TB_in 346 (by decide +kernel) (by decide +kernel)
theorem tb_347 : (Jvm.Cond.instanceMethod ({ cls := "WeightedForest$Forest", name := "edgeBetween", desc := "(II)I" } : Jvm.MethodName)) ∈ TB := TB_in 347 (by decide +kernel) (by decide +kernel)
theorem tb_348 : (Jvm.Cond.selects "WeightedForest$Forest" ({ cls := "WeightedForest$Forest", name := "edgeBetween", desc := "(II)I" } : Jvm.MethodName) ({ cls := "WeightedForest$Forest", name := "edgeBetween", desc := "(II)I" } : Jvm.MethodName)) ∈ TB := TB_in 348 (by decide +kernel) (by decide +kernel)
theorem tb_349 : (Jvm.Cond.code ({ cls := "WeightedForest$Forest", name := "edgeBetween", desc := "(II)I" } : Jvm.MethodName) prog_3_method_10_code (3 : Nat) (Option.some Jvm.ClassFile.FieldType.int)) ∈ TB := TB_in 349 (by decide +kernel) (by decide +kernel)
theorem tb_350 : (Jvm.Cond.methodLink "WeightedForestLaw" (31 : Nat) ({ cls := "WeightedForest", name := "vertexWeight", desc := "(I)I" } : Jvm.MethodName)) ∈ TB := TB_in 350 (by decide +kernel) (by decide +kernel)
theorem tb_351 : (Jvm.Cond.instanceMethod ({ cls := "WeightedForest", name := "vertexWeight", desc := "(I)I" } : Jvm.MethodName)) ∈ TB := TB_in 351 (by decide +kernel) (by decide +kernel)
theorem tb_352 : (Jvm.Cond.selects "WeightedForest" ({ cls := "WeightedForest", name := "vertexWeight", desc := "(I)I" } : Jvm.MethodName) ({ cls := "WeightedForest", name := "vertexWeight", desc := "(I)I" } : Jvm.MethodName)) ∈ TB := TB_in 352 (by decide +kernel) (by decide +kernel)
theorem tb_353 : (Jvm.Cond.code ({ cls := "WeightedForest", name := "vertexWeight", desc := "(I)I" } : Jvm.MethodName) prog_1_method_7_code (2 : Nat) (Option.some Jvm.ClassFile.FieldType.int)) ∈ TB := TB_in 353 (by decide +kernel) (by decide +kernel)
theorem tb_354 : (Jvm.Cond.methodLink "WeightedForest" (94 : Nat) ({ cls := "WeightedForest$Forest", name := "hasVertex", desc := "(I)Z" } : Jvm.MethodName)) ∈ TB := TB_in 354 (by decide +kernel) (by decide +kernel)
theorem tb_355 : (Jvm.Cond.methodLink "WeightedForest" (97 : Nat) ({ cls := "WeightedForest$Forest", name := "weightOf", desc := "(I)I" } : Jvm.MethodName)) ∈ TB := TB_in 355 (by decide +kernel) (by decide +kernel)
theorem tb_356 : (Jvm.Cond.instanceMethod ({ cls := "WeightedForest$Forest", name := "weightOf", desc := "(I)I" } : Jvm.MethodName)) ∈ TB := TB_in 356 (by decide +kernel) (by decide +kernel)
theorem tb_357 : (Jvm.Cond.selects "WeightedForest$Forest" ({ cls := "WeightedForest$Forest", name := "weightOf", desc := "(I)I" } : Jvm.MethodName) ({ cls := "WeightedForest$Forest", name := "weightOf", desc := "(I)I" } : Jvm.MethodName)) ∈ TB := TB_in 357 (by decide +kernel) (by decide +kernel)
theorem tb_358 : (Jvm.Cond.code ({ cls := "WeightedForest$Forest", name := "weightOf", desc := "(I)I" } : Jvm.MethodName) prog_3_method_7_code (2 : Nat) (Option.some Jvm.ClassFile.FieldType.int)) ∈ TB := TB_in 358 (by decide +kernel) (by decide +kernel)
theorem tb_359 : (Jvm.Cond.methodLink "WeightedForestLaw" (35 : Nat) ({ cls := "WeightedForest", name := "edgeWeight", desc := "(II)I" } : Jvm.MethodName)) ∈ TB := TB_in 359 (by decide +kernel) (by decide +kernel)
theorem tb_360 : (Jvm.Cond.instanceMethod ({ cls := "WeightedForest", name := "edgeWeight", desc := "(II)I" } : Jvm.MethodName)) ∈ TB := TB_in 360 (by decide +kernel) (by decide +kernel)
theorem tb_361 : (Jvm.Cond.selects "WeightedForest" ({ cls := "WeightedForest", name := "edgeWeight", desc := "(II)I" } : Jvm.MethodName) ({ cls := "WeightedForest", name := "edgeWeight", desc := "(II)I" } : Jvm.MethodName)) ∈ TB := TB_in 361 (by decide +kernel) (by decide +kernel)
theorem tb_362 : (Jvm.Cond.code ({ cls := "WeightedForest", name := "edgeWeight", desc := "(II)I" } : Jvm.MethodName) prog_1_method_8_code (3 : Nat) (Option.some Jvm.ClassFile.FieldType.int)) ∈ TB := TB_in 362 (by decide +kernel) (by decide +kernel)
theorem tb_363 : (Jvm.Cond.methodLink "WeightedForest" (101 : Nat) ({ cls := "WeightedForest$Forest", name := "hasVertices", desc := "(II)Z" } : Jvm.MethodName)) ∈ TB := TB_in 363 (by decide +kernel) (by decide +kernel)
theorem tb_364 : (Jvm.Cond.methodLink "WeightedForest" (105 : Nat) ({ cls := "WeightedForest$Forest", name := "hasEdge", desc := "(II)Z" } : Jvm.MethodName)) ∈ TB := TB_in 364 (by decide +kernel) (by decide +kernel)
theorem tb_365 : (Jvm.Cond.methodLink "WeightedForest" (108 : Nat) ({ cls := "WeightedForest$Forest", name := "edgeBetween", desc := "(II)I" } : Jvm.MethodName)) ∈ TB := TB_in 365 (by decide +kernel) (by decide +kernel)
theorem tb_366 : (Jvm.Cond.methodLink "WeightedForestLaw" (40 : Nat) ({ cls := "WeightedForest", name := "treeOf", desc := "(I)I" } : Jvm.MethodName)) ∈ TB := TB_in 366 (by decide +kernel) (by decide +kernel)
theorem tb_367 : (Jvm.Cond.instanceMethod ({ cls := "WeightedForest", name := "treeOf", desc := "(I)I" } : Jvm.MethodName)) ∈ TB := TB_in 367 (by decide +kernel) (by decide +kernel)
theorem tb_368 : (Jvm.Cond.selects "WeightedForest" ({ cls := "WeightedForest", name := "treeOf", desc := "(I)I" } : Jvm.MethodName) ({ cls := "WeightedForest", name := "treeOf", desc := "(I)I" } : Jvm.MethodName)) ∈ TB := TB_in 368 (by decide +kernel) (by decide +kernel)
theorem tb_369 : (Jvm.Cond.code ({ cls := "WeightedForest", name := "treeOf", desc := "(I)I" } : Jvm.MethodName) prog_1_method_9_code (2 : Nat) (Option.some Jvm.ClassFile.FieldType.int)) ∈ TB := TB_in 369 (by decide +kernel) (by decide +kernel)
theorem tb_370 : (Jvm.Cond.methodLink "WeightedForest" (112 : Nat) ({ cls := "WeightedForest$Survey", name := "measure", desc := "()V" } : Jvm.MethodName)) ∈ TB := TB_in 370 (by decide +kernel) (by decide +kernel)
theorem tb_371 : (Jvm.Cond.instanceMethod ({ cls := "WeightedForest$Survey", name := "measure", desc := "()V" } : Jvm.MethodName)) ∈ TB := TB_in 371 (by decide +kernel) (by decide +kernel)
theorem tb_372 : (Jvm.Cond.selects "WeightedForest$Survey" ({ cls := "WeightedForest$Survey", name := "measure", desc := "()V" } : Jvm.MethodName) ({ cls := "WeightedForest$Survey", name := "measure", desc := "()V" } : Jvm.MethodName)) ∈ TB := TB_in 372 (by decide +kernel) (by decide +kernel)
theorem tb_373 : (Jvm.Cond.code ({ cls := "WeightedForest$Survey", name := "measure", desc := "()V" } : Jvm.MethodName) prog_7_method_2_code (4 : Nat) (Option.none : Option Jvm.ClassFile.FieldType)) ∈ TB := TB_in 373 (by decide +kernel) (by decide +kernel)
theorem tb_374 : (Jvm.Cond.methodLink "WeightedForest$Survey" (20 : Nat) ({ cls := "WeightedForest$Forest", name := "vertices", desc := "()I" } : Jvm.MethodName)) ∈ TB := TB_in 374 (by decide +kernel) (by decide +kernel)
theorem tb_375 : (Jvm.Cond.methodLink "WeightedForest$Survey" (30 : Nat) ({ cls := "WeightedForest$Forest", name := "edgeBetween", desc := "(II)I" } : Jvm.MethodName)) ∈ TB := TB_in 375 (by decide +kernel) (by decide +kernel)
theorem tb_376 : (Jvm.Cond.constant "WeightedForest$Survey" (34 : Nat) (1000000 : Int32)) ∈ TB := TB_in 376 (by decide +kernel) (by decide +kernel)
theorem tb_377 : (Jvm.Cond.methodLink "WeightedForest$Survey" (35 : Nat) ({ cls := "WeightedForest$Survey", name := "extendOver", desc := "(II)V" } : Jvm.MethodName)) ∈ TB := TB_in 377 (by decide +kernel) (by decide +kernel)
theorem tb_379 : (Jvm.Cond.instanceMethod ({ cls := "WeightedForest$Survey", name := "extendOver", desc := "(II)V" } : Jvm.MethodName)) ∈ TB := TB_in 379 (by decide +kernel) (by decide +kernel)
theorem tb_380 : (Jvm.Cond.code ({ cls := "WeightedForest$Survey", name := "extendOver", desc := "(II)V" } : Jvm.MethodName) prog_7_method_3_code (5 : Nat) (Option.none : Option Jvm.ClassFile.FieldType)) ∈ TB := TB_in 380 (by decide +kernel) (by decide +kernel)
theorem tb_381 : (Jvm.Cond.methodLink "WeightedForest$Survey" (39 : Nat) ({ cls := "java/lang/Math", name := "min", desc := "(II)I" } : Jvm.MethodName)) ∈ TB := TB_in 381 (by decide +kernel) (by decide +kernel)
theorem tb_382 : (Jvm.Cond.methodLink "WeightedForest" (115 : Nat) ({ cls := "WeightedForest$Survey", name := "smallestJoined", desc := "(I)I" } : Jvm.MethodName)) ∈ TB := TB_in 382 (by decide +kernel) (by decide +kernel)
theorem tb_383 : (Jvm.Cond.instanceMethod ({ cls := "WeightedForest$Survey", name := "smallestJoined", desc := "(I)I" } : Jvm.MethodName)) ∈ TB := TB_in 383 (by decide +kernel) (by decide +kernel)
theorem tb_384 : (Jvm.Cond.selects "WeightedForest$Survey" ({ cls := "WeightedForest$Survey", name := "smallestJoined", desc := "(I)I" } : Jvm.MethodName) ({ cls := "WeightedForest$Survey", name := "smallestJoined", desc := "(I)I" } : Jvm.MethodName)) ∈ TB := TB_in 384 (by decide +kernel) (by decide +kernel)
theorem tb_385 : (Jvm.Cond.code ({ cls := "WeightedForest$Survey", name := "smallestJoined", desc := "(I)I" } : Jvm.MethodName) prog_7_method_7_code (3 : Nat) (Option.some Jvm.ClassFile.FieldType.int)) ∈ TB := TB_in 385 (by decide +kernel) (by decide +kernel)
theorem tb_386 : (Jvm.Cond.methodLink "WeightedForest$Survey" (47 : Nat) ({ cls := "WeightedForest$Survey", name := "joined", desc := "(II)Z" } : Jvm.MethodName)) ∈ TB := TB_in 386 (by decide +kernel) (by decide +kernel)
theorem tb_387 : (Jvm.Cond.instanceMethod ({ cls := "WeightedForest$Survey", name := "joined", desc := "(II)Z" } : Jvm.MethodName)) ∈ TB := TB_in 387 (by decide +kernel) (by decide +kernel)
theorem tb_388 : (Jvm.Cond.selects "WeightedForest$Survey" ({ cls := "WeightedForest$Survey", name := "joined", desc := "(II)Z" } : Jvm.MethodName) ({ cls := "WeightedForest$Survey", name := "joined", desc := "(II)Z" } : Jvm.MethodName)) ∈ TB := TB_in 388 (by decide +kernel) (by decide +kernel)
theorem tb_389 : (Jvm.Cond.code ({ cls := "WeightedForest$Survey", name := "joined", desc := "(II)Z" } : Jvm.MethodName) prog_7_method_5_code (3 : Nat) (Option.some Jvm.ClassFile.FieldType.boolean)) ∈ TB := TB_in 389 (by decide +kernel) (by decide +kernel)
theorem tb_390 : (Jvm.Cond.methodLink "WeightedForest$Survey" (44 : Nat) ({ cls := "WeightedForest$Survey", name := "between", desc := "(II)I" } : Jvm.MethodName)) ∈ TB := TB_in 390 (by decide +kernel) (by decide +kernel)
theorem tb_391 : (Jvm.Cond.instanceMethod ({ cls := "WeightedForest$Survey", name := "between", desc := "(II)I" } : Jvm.MethodName)) ∈ TB := TB_in 391 (by decide +kernel) (by decide +kernel)
theorem tb_392 : (Jvm.Cond.selects "WeightedForest$Survey" ({ cls := "WeightedForest$Survey", name := "between", desc := "(II)I" } : Jvm.MethodName) ({ cls := "WeightedForest$Survey", name := "between", desc := "(II)I" } : Jvm.MethodName)) ∈ TB := TB_in 392 (by decide +kernel) (by decide +kernel)
theorem tb_393 : (Jvm.Cond.code ({ cls := "WeightedForest$Survey", name := "between", desc := "(II)I" } : Jvm.MethodName) prog_7_method_4_code (3 : Nat) (Option.some Jvm.ClassFile.FieldType.int)) ∈ TB := TB_in 393 (by decide +kernel) (by decide +kernel)
theorem tb_394 : (Jvm.Cond.methodLink "WeightedForestLaw" (44 : Nat) ({ cls := "WeightedForest", name := "link", desc := "(III)I" } : Jvm.MethodName)) ∈ TB := TB_in 394 (by decide +kernel) (by decide +kernel)
theorem tb_395 : (Jvm.Cond.instanceMethod ({ cls := "WeightedForest", name := "link", desc := "(III)I" } : Jvm.MethodName)) ∈ TB := TB_in 395 (by decide +kernel) (by decide +kernel)
theorem tb_396 : (Jvm.Cond.selects "WeightedForest" ({ cls := "WeightedForest", name := "link", desc := "(III)I" } : Jvm.MethodName) ({ cls := "WeightedForest", name := "link", desc := "(III)I" } : Jvm.MethodName)) ∈ TB := TB_in 396 (by decide +kernel) (by decide +kernel)
theorem tb_397 : (Jvm.Cond.code ({ cls := "WeightedForest", name := "link", desc := "(III)I" } : Jvm.MethodName) prog_1_method_10_code (5 : Nat) (Option.some Jvm.ClassFile.FieldType.int)) ∈ TB := TB_in 397 (by decide +kernel) (by decide +kernel)
theorem tb_398 : (Jvm.Cond.methodLink "WeightedForest" (118 : Nat) ({ cls := "WeightedForest", name := "linkError", desc := "(LWeightedForest$Forest;LWeightedForest$Survey;III)I" } : Jvm.MethodName)) ∈ TB := TB_in 398 (by decide +kernel) (by decide +kernel)
theorem tb_399 : (Jvm.Cond.static ({ cls := "WeightedForest", name := "linkError", desc := "(LWeightedForest$Forest;LWeightedForest$Survey;III)I" } : Jvm.MethodName)) ∈ TB := TB_in 399 (by decide +kernel) (by decide +kernel)
theorem tb_400 : (Jvm.Cond.code ({ cls := "WeightedForest", name := "linkError", desc := "(LWeightedForest$Forest;LWeightedForest$Survey;III)I" } : Jvm.MethodName) prog_1_method_15_code (5 : Nat) (Option.some Jvm.ClassFile.FieldType.int)) ∈ TB := TB_in 400 (by decide +kernel) (by decide +kernel)
theorem tb_401 : (Jvm.Cond.methodLink "WeightedForest" (142 : Nat) ({ cls := "WeightedForest$Survey", name := "joined", desc := "(II)Z" } : Jvm.MethodName)) ∈ TB := TB_in 401 (by decide +kernel) (by decide +kernel)
theorem tb_402 : (Jvm.Cond.methodLink "WeightedForest" (122 : Nat) ({ cls := "WeightedForest$History", name := "remember", desc := "(LWeightedForest$Forest;)V" } : Jvm.MethodName)) ∈ TB := TB_in 402 (by decide +kernel) (by decide +kernel)
theorem tb_403 : (Jvm.Cond.instanceMethod ({ cls := "WeightedForest$History", name := "remember", desc := "(LWeightedForest$Forest;)V" } : Jvm.MethodName)) ∈ TB := TB_in 403 (by decide +kernel) (by decide +kernel)
theorem tb_404 : (Jvm.Cond.selects "WeightedForest$History" ({ cls := "WeightedForest$History", name := "remember", desc := "(LWeightedForest$Forest;)V" } : Jvm.MethodName) ({ cls := "WeightedForest$History", name := "remember", desc := "(LWeightedForest$Forest;)V" } : Jvm.MethodName)) ∈ TB := TB_in 404 (by decide +kernel) (by decide +kernel)
theorem tb_405 : (Jvm.Cond.code ({ cls := "WeightedForest$History", name := "remember", desc := "(LWeightedForest$Forest;)V" } : Jvm.MethodName) prog_4_method_3_code (2 : Nat) (Option.none : Option Jvm.ClassFile.FieldType)) ∈ TB := TB_in 405 (by decide +kernel) (by decide +kernel)
theorem tb_406 : (Jvm.Cond.methodLink "WeightedForest$History" (23 : Nat) ({ cls := "WeightedForest$Forest", name := "become", desc := "(LWeightedForest$Forest;)V" } : Jvm.MethodName)) ∈ TB := TB_in 406 (by decide +kernel) (by decide +kernel)
theorem tb_407 : (Jvm.Cond.methodLink "WeightedForest$History" (27 : Nat) ({ cls := "java/lang/Math", name := "min", desc := "(II)I" } : Jvm.MethodName)) ∈ TB := TB_in 407 (by decide +kernel) (by decide +kernel)
theorem tb_408 : (Jvm.Cond.methodLink "WeightedForest" (125 : Nat) ({ cls := "WeightedForest$Forest", name := "putEdge", desc := "(III)V" } : Jvm.MethodName)) ∈ TB := TB_in 408 (by decide +kernel) (by decide +kernel)
theorem tb_409 : (Jvm.Cond.methodLink "WeightedForestLaw" (49 : Nat) ({ cls := "WeightedForest", name := "cut", desc := "(II)I" } : Jvm.MethodName)) ∈ TB := TB_in 409 (by decide +kernel) (by decide +kernel)
theorem tb_410 : (Jvm.Cond.instanceMethod ({ cls := "WeightedForest", name := "cut", desc := "(II)I" } : Jvm.MethodName)) ∈ TB := TB_in 410 (by decide +kernel) (by decide +kernel)
theorem tb_411 : (Jvm.Cond.selects "WeightedForest" ({ cls := "WeightedForest", name := "cut", desc := "(II)I" } : Jvm.MethodName) ({ cls := "WeightedForest", name := "cut", desc := "(II)I" } : Jvm.MethodName)) ∈ TB := TB_in 411 (by decide +kernel) (by decide +kernel)
theorem tb_412 : (Jvm.Cond.code ({ cls := "WeightedForest", name := "cut", desc := "(II)I" } : Jvm.MethodName) prog_1_method_11_code (5 : Nat) (Option.some Jvm.ClassFile.FieldType.int)) ∈ TB := TB_in 412 (by decide +kernel) (by decide +kernel)
theorem tb_413 : (Jvm.Cond.methodLink "WeightedForest" (129 : Nat) ({ cls := "WeightedForest", name := "cutError", desc := "(LWeightedForest$Forest;II)I" } : Jvm.MethodName)) ∈ TB := TB_in 413 (by decide +kernel) (by decide +kernel)
theorem tb_414 : (Jvm.Cond.static ({ cls := "WeightedForest", name := "cutError", desc := "(LWeightedForest$Forest;II)I" } : Jvm.MethodName)) ∈ TB := TB_in 414 (by decide +kernel) (by decide +kernel)
theorem tb_415 : (Jvm.Cond.code ({ cls := "WeightedForest", name := "cutError", desc := "(LWeightedForest$Forest;II)I" } : Jvm.MethodName) prog_1_method_16_code (3 : Nat) (Option.some Jvm.ClassFile.FieldType.int)) ∈ TB := TB_in 415 (by decide +kernel) (by decide +kernel)
theorem tb_416 : (Jvm.Cond.methodLink "WeightedForestLaw" (53 : Nat) ({ cls := "WeightedForest", name := "setEdgeWeight", desc := "(III)I" } : Jvm.MethodName)) ∈ TB := TB_in 416 (by decide +kernel) (by decide +kernel)
theorem tb_417 : (Jvm.Cond.instanceMethod ({ cls := "WeightedForest", name := "setEdgeWeight", desc := "(III)I" } : Jvm.MethodName)) ∈ TB := TB_in 417 (by decide +kernel) (by decide +kernel)
theorem tb_418 : (Jvm.Cond.selects "WeightedForest" ({ cls := "WeightedForest", name := "setEdgeWeight", desc := "(III)I" } : Jvm.MethodName) ({ cls := "WeightedForest", name := "setEdgeWeight", desc := "(III)I" } : Jvm.MethodName)) ∈ TB := TB_in 418 (by decide +kernel) (by decide +kernel)
theorem tb_419 : (Jvm.Cond.code ({ cls := "WeightedForest", name := "setEdgeWeight", desc := "(III)I" } : Jvm.MethodName) prog_1_method_12_code (5 : Nat) (Option.some Jvm.ClassFile.FieldType.int)) ∈ TB := TB_in 419 (by decide +kernel) (by decide +kernel)
theorem tb_420 : (Jvm.Cond.methodLink "WeightedForestLaw" (57 : Nat) ({ cls := "WeightedForest", name := "setVertexWeight", desc := "(II)I" } : Jvm.MethodName)) ∈ TB := TB_in 420 (by decide +kernel) (by decide +kernel)
theorem tb_421 : (Jvm.Cond.instanceMethod ({ cls := "WeightedForest", name := "setVertexWeight", desc := "(II)I" } : Jvm.MethodName)) ∈ TB := TB_in 421 (by decide +kernel) (by decide +kernel)
theorem tb_422 : (Jvm.Cond.selects "WeightedForest" ({ cls := "WeightedForest", name := "setVertexWeight", desc := "(II)I" } : Jvm.MethodName) ({ cls := "WeightedForest", name := "setVertexWeight", desc := "(II)I" } : Jvm.MethodName)) ∈ TB := TB_in 422 (by decide +kernel) (by decide +kernel)
theorem tb_423 : (Jvm.Cond.code ({ cls := "WeightedForest", name := "setVertexWeight", desc := "(II)I" } : Jvm.MethodName) prog_1_method_13_code (4 : Nat) (Option.some Jvm.ClassFile.FieldType.int)) ∈ TB := TB_in 423 (by decide +kernel) (by decide +kernel)
theorem tb_424 : (Jvm.Cond.methodLink "WeightedForest" (133 : Nat) ({ cls := "WeightedForest$Forest", name := "putWeight", desc := "(II)V" } : Jvm.MethodName)) ∈ TB := TB_in 424 (by decide +kernel) (by decide +kernel)
theorem tb_425 : (Jvm.Cond.methodLink "WeightedForestLaw" (61 : Nat) ({ cls := "WeightedForest", name := "undo", desc := "()I" } : Jvm.MethodName)) ∈ TB := TB_in 425 (by decide +kernel) (by decide +kernel)
theorem tb_426 : (Jvm.Cond.instanceMethod ({ cls := "WeightedForest", name := "undo", desc := "()I" } : Jvm.MethodName)) ∈ TB := TB_in 426 (by decide +kernel) (by decide +kernel)
theorem tb_427 : (Jvm.Cond.selects "WeightedForest" ({ cls := "WeightedForest", name := "undo", desc := "()I" } : Jvm.MethodName) ({ cls := "WeightedForest", name := "undo", desc := "()I" } : Jvm.MethodName)) ∈ TB := TB_in 427 (by decide +kernel) (by decide +kernel)
theorem tb_428 : (Jvm.Cond.code ({ cls := "WeightedForest", name := "undo", desc := "()I" } : Jvm.MethodName) prog_1_method_14_code (1 : Nat) (Option.some Jvm.ClassFile.FieldType.int)) ∈ TB := TB_in 428 (by decide +kernel) (by decide +kernel)
theorem tb_429 : (Jvm.Cond.methodLink "WeightedForest" (137 : Nat) ({ cls := "WeightedForest$History", name := "takeBack", desc := "(LWeightedForest$Forest;)Z" } : Jvm.MethodName)) ∈ TB := TB_in 429 (by decide +kernel) (by decide +kernel)
theorem tb_430 : (Jvm.Cond.instanceMethod ({ cls := "WeightedForest$History", name := "takeBack", desc := "(LWeightedForest$Forest;)Z" } : Jvm.MethodName)) ∈ TB := TB_in 430 (by decide +kernel) (by decide +kernel)
theorem tb_431 : (Jvm.Cond.selects "WeightedForest$History" ({ cls := "WeightedForest$History", name := "takeBack", desc := "(LWeightedForest$Forest;)Z" } : Jvm.MethodName) ({ cls := "WeightedForest$History", name := "takeBack", desc := "(LWeightedForest$Forest;)Z" } : Jvm.MethodName)) ∈ TB := TB_in 431 (by decide +kernel) (by decide +kernel)
theorem tb_432 : (Jvm.Cond.code ({ cls := "WeightedForest$History", name := "takeBack", desc := "(LWeightedForest$Forest;)Z" } : Jvm.MethodName) prog_4_method_4_code (2 : Nat) (Option.some Jvm.ClassFile.FieldType.boolean)) ∈ TB := TB_in 432 (by decide +kernel) (by decide +kernel)
theorem tb_433 : (Jvm.Cond.methodLink "WeightedForest" (141 : Nat) ({ cls := "WeightedForest$History", name := "size", desc := "()I" } : Jvm.MethodName)) ∈ TB := TB_in 433 (by decide +kernel) (by decide +kernel)
theorem tb_434 : (Jvm.Cond.instanceMethod ({ cls := "WeightedForest$History", name := "size", desc := "()I" } : Jvm.MethodName)) ∈ TB := TB_in 434 (by decide +kernel) (by decide +kernel)
theorem tb_435 : (Jvm.Cond.selects "WeightedForest$History" ({ cls := "WeightedForest$History", name := "size", desc := "()I" } : Jvm.MethodName) ({ cls := "WeightedForest$History", name := "size", desc := "()I" } : Jvm.MethodName)) ∈ TB := TB_in 435 (by decide +kernel) (by decide +kernel)
theorem tb_436 : (Jvm.Cond.code ({ cls := "WeightedForest$History", name := "size", desc := "()I" } : Jvm.MethodName) prog_4_method_2_code (1 : Nat) (Option.some Jvm.ClassFile.FieldType.int)) ∈ TB := TB_in 436 (by decide +kernel) (by decide +kernel)
theorem tb_437 : (Jvm.Cond.methodLink "WeightedForestLaw" (65 : Nat) ({ cls := "WeightedForest", name := "distance", desc := "(II)I" } : Jvm.MethodName)) ∈ TB := TB_in 437 (by decide +kernel) (by decide +kernel)
theorem tb_438 : (Jvm.Cond.instanceMethod ({ cls := "WeightedForest", name := "distance", desc := "(II)I" } : Jvm.MethodName)) ∈ TB := TB_in 438 (by decide +kernel) (by decide +kernel)
theorem tb_439 : (Jvm.Cond.selects "WeightedForest" ({ cls := "WeightedForest", name := "distance", desc := "(II)I" } : Jvm.MethodName) ({ cls := "WeightedForest", name := "distance", desc := "(II)I" } : Jvm.MethodName)) ∈ TB := TB_in 439 (by decide +kernel) (by decide +kernel)
theorem tb_440 : (Jvm.Cond.code ({ cls := "WeightedForest", name := "distance", desc := "(II)I" } : Jvm.MethodName) prog_1_method_17_code (3 : Nat) (Option.some Jvm.ClassFile.FieldType.int)) ∈ TB := TB_in 440 (by decide +kernel) (by decide +kernel)
theorem tb_441 : (Jvm.Cond.methodLink "WeightedForest" (145 : Nat) ({ cls := "WeightedForest$Survey", name := "between", desc := "(II)I" } : Jvm.MethodName)) ∈ TB := TB_in 441 (by decide +kernel) (by decide +kernel)
theorem tb_442 : (Jvm.Cond.methodLink "WeightedForestLaw" (69 : Nat) ({ cls := "WeightedForest", name := "pathVertex", desc := "(III)I" } : Jvm.MethodName)) ∈ TB := TB_in 442 (by decide +kernel) (by decide +kernel)
theorem tb_443 : (Jvm.Cond.instanceMethod ({ cls := "WeightedForest", name := "pathVertex", desc := "(III)I" } : Jvm.MethodName)) ∈ TB := TB_in 443 (by decide +kernel) (by decide +kernel)
theorem tb_444 : (Jvm.Cond.selects "WeightedForest" ({ cls := "WeightedForest", name := "pathVertex", desc := "(III)I" } : Jvm.MethodName) ({ cls := "WeightedForest", name := "pathVertex", desc := "(III)I" } : Jvm.MethodName)) ∈ TB := TB_in 444 (by decide +kernel) (by decide +kernel)
theorem tb_445 : (Jvm.Cond.code ({ cls := "WeightedForest", name := "pathVertex", desc := "(III)I" } : Jvm.MethodName) prog_1_method_18_code (4 : Nat) (Option.some Jvm.ClassFile.FieldType.int)) ∈ TB := TB_in 445 (by decide +kernel) (by decide +kernel)
theorem tb_446 : (Jvm.Cond.methodLink "WeightedForest" (148 : Nat) ({ cls := "WeightedForest$Survey", name := "vertexOnPath", desc := "(III)I" } : Jvm.MethodName)) ∈ TB := TB_in 446 (by decide +kernel) (by decide +kernel)
theorem tb_447 : (Jvm.Cond.instanceMethod ({ cls := "WeightedForest$Survey", name := "vertexOnPath", desc := "(III)I" } : Jvm.MethodName)) ∈ TB := TB_in 447 (by decide +kernel) (by decide +kernel)
theorem tb_448 : (Jvm.Cond.selects "WeightedForest$Survey" ({ cls := "WeightedForest$Survey", name := "vertexOnPath", desc := "(III)I" } : Jvm.MethodName) ({ cls := "WeightedForest$Survey", name := "vertexOnPath", desc := "(III)I" } : Jvm.MethodName)) ∈ TB := TB_in 448 (by decide +kernel) (by decide +kernel)
theorem tb_449 : (Jvm.Cond.code ({ cls := "WeightedForest$Survey", name := "vertexOnPath", desc := "(III)I" } : Jvm.MethodName) prog_7_method_8_code (6 : Nat) (Option.some Jvm.ClassFile.FieldType.int)) ∈ TB := TB_in 449 (by decide +kernel) (by decide +kernel)
theorem tb_450 : (Jvm.Cond.methodLink "WeightedForest$Survey" (51 : Nat) ({ cls := "WeightedForest$Survey", name := "stepToward", desc := "(II)I" } : Jvm.MethodName)) ∈ TB := TB_in 450 (by decide +kernel) (by decide +kernel)
theorem tb_452 : (Jvm.Cond.instanceMethod ({ cls := "WeightedForest$Survey", name := "stepToward", desc := "(II)I" } : Jvm.MethodName)) ∈ TB := TB_in 452 (by decide +kernel) (by decide +kernel)
theorem tb_453 : (Jvm.Cond.code ({ cls := "WeightedForest$Survey", name := "stepToward", desc := "(II)I" } : Jvm.MethodName) prog_7_method_9_code (4 : Nat) (Option.some Jvm.ClassFile.FieldType.int)) ∈ TB := TB_in 453 (by decide +kernel) (by decide +kernel)
theorem tb_454 : (Jvm.Cond.methodLink "WeightedForest$Survey" (54 : Nat) ({ cls := "WeightedForest$Forest", name := "hasEdge", desc := "(II)Z" } : Jvm.MethodName)) ∈ TB := TB_in 454 (by decide +kernel) (by decide +kernel)
theorem tb_455 : (Jvm.Cond.methodLink "WeightedForestLaw" (73 : Nat) ({ cls := "WeightedForest", name := "eccentricity", desc := "(I)I" } : Jvm.MethodName)) ∈ TB := TB_in 455 (by decide +kernel) (by decide +kernel)
theorem tb_456 : (Jvm.Cond.instanceMethod ({ cls := "WeightedForest", name := "eccentricity", desc := "(I)I" } : Jvm.MethodName)) ∈ TB := TB_in 456 (by decide +kernel) (by decide +kernel)
theorem tb_457 : (Jvm.Cond.selects "WeightedForest" ({ cls := "WeightedForest", name := "eccentricity", desc := "(I)I" } : Jvm.MethodName) ({ cls := "WeightedForest", name := "eccentricity", desc := "(I)I" } : Jvm.MethodName)) ∈ TB := TB_in 457 (by decide +kernel) (by decide +kernel)
theorem tb_458 : (Jvm.Cond.code ({ cls := "WeightedForest", name := "eccentricity", desc := "(I)I" } : Jvm.MethodName) prog_1_method_19_code (2 : Nat) (Option.some Jvm.ClassFile.FieldType.int)) ∈ TB := TB_in 458 (by decide +kernel) (by decide +kernel)
theorem tb_459 : (Jvm.Cond.methodLink "WeightedForest" (152 : Nat) ({ cls := "WeightedForest$Survey", name := "greatestFrom", desc := "(I)I" } : Jvm.MethodName)) ∈ TB := TB_in 459 (by decide +kernel) (by decide +kernel)
theorem tb_460 : (Jvm.Cond.instanceMethod ({ cls := "WeightedForest$Survey", name := "greatestFrom", desc := "(I)I" } : Jvm.MethodName)) ∈ TB := TB_in 460 (by decide +kernel) (by decide +kernel)
theorem tb_461 : (Jvm.Cond.selects "WeightedForest$Survey" ({ cls := "WeightedForest$Survey", name := "greatestFrom", desc := "(I)I" } : Jvm.MethodName) ({ cls := "WeightedForest$Survey", name := "greatestFrom", desc := "(I)I" } : Jvm.MethodName)) ∈ TB := TB_in 461 (by decide +kernel) (by decide +kernel)
theorem tb_462 : (Jvm.Cond.code ({ cls := "WeightedForest$Survey", name := "greatestFrom", desc := "(I)I" } : Jvm.MethodName) prog_7_method_10_code (2 : Nat) (Option.some Jvm.ClassFile.FieldType.int)) ∈ TB := TB_in 462 (by decide +kernel) (by decide +kernel)
theorem tb_463 : (Jvm.Cond.methodLink "WeightedForest$Survey" (57 : Nat) ({ cls := "WeightedForest$Survey", name := "firstFarthest", desc := "(I)I" } : Jvm.MethodName)) ∈ TB := TB_in 463 (by decide +kernel) (by decide +kernel)
theorem tb_464 : (Jvm.Cond.instanceMethod ({ cls := "WeightedForest$Survey", name := "firstFarthest", desc := "(I)I" } : Jvm.MethodName)) ∈ TB := TB_in 464 (by decide +kernel) (by decide +kernel)
theorem tb_465 : (Jvm.Cond.selects "WeightedForest$Survey" ({ cls := "WeightedForest$Survey", name := "firstFarthest", desc := "(I)I" } : Jvm.MethodName) ({ cls := "WeightedForest$Survey", name := "firstFarthest", desc := "(I)I" } : Jvm.MethodName)) ∈ TB := TB_in 465 (by decide +kernel) (by decide +kernel)
theorem tb_466 : (Jvm.Cond.code ({ cls := "WeightedForest$Survey", name := "firstFarthest", desc := "(I)I" } : Jvm.MethodName) prog_7_method_11_code (6 : Nat) (Option.some Jvm.ClassFile.FieldType.int)) ∈ TB := TB_in 466 (by decide +kernel) (by decide +kernel)
theorem tb_467 : (Jvm.Cond.methodLink "WeightedForestLaw" (77 : Nat) ({ cls := "WeightedForest", name := "diameter", desc := "(I)I" } : Jvm.MethodName)) ∈ TB := TB_in 467 (by decide +kernel) (by decide +kernel)
theorem tb_468 : (Jvm.Cond.instanceMethod ({ cls := "WeightedForest", name := "diameter", desc := "(I)I" } : Jvm.MethodName)) ∈ TB := TB_in 468 (by decide +kernel) (by decide +kernel)
theorem tb_469 : (Jvm.Cond.selects "WeightedForest" ({ cls := "WeightedForest", name := "diameter", desc := "(I)I" } : Jvm.MethodName) ({ cls := "WeightedForest", name := "diameter", desc := "(I)I" } : Jvm.MethodName)) ∈ TB := TB_in 469 (by decide +kernel) (by decide +kernel)
theorem tb_470 : (Jvm.Cond.code ({ cls := "WeightedForest", name := "diameter", desc := "(I)I" } : Jvm.MethodName) prog_1_method_20_code (2 : Nat) (Option.some Jvm.ClassFile.FieldType.int)) ∈ TB := TB_in 470 (by decide +kernel) (by decide +kernel)
theorem tb_471 : (Jvm.Cond.methodLink "WeightedForest" (155 : Nat) ({ cls := "WeightedForest$Survey", name := "widthAround", desc := "(I)I" } : Jvm.MethodName)) ∈ TB := TB_in 471 (by decide +kernel) (by decide +kernel)
theorem tb_472 : (Jvm.Cond.instanceMethod ({ cls := "WeightedForest$Survey", name := "widthAround", desc := "(I)I" } : Jvm.MethodName)) ∈ TB := TB_in 472 (by decide +kernel) (by decide +kernel)
theorem tb_473 : (Jvm.Cond.selects "WeightedForest$Survey" ({ cls := "WeightedForest$Survey", name := "widthAround", desc := "(I)I" } : Jvm.MethodName) ({ cls := "WeightedForest$Survey", name := "widthAround", desc := "(I)I" } : Jvm.MethodName)) ∈ TB := TB_in 473 (by decide +kernel) (by decide +kernel)
theorem tb_474 : (Jvm.Cond.code ({ cls := "WeightedForest$Survey", name := "widthAround", desc := "(I)I" } : Jvm.MethodName) prog_7_method_12_code (2 : Nat) (Option.some Jvm.ClassFile.FieldType.int)) ∈ TB := TB_in 474 (by decide +kernel) (by decide +kernel)
theorem tb_475 : (Jvm.Cond.methodLink "WeightedForest$Survey" (61 : Nat) ({ cls := "WeightedForest$Survey", name := "firstWideEnd", desc := "(I)I" } : Jvm.MethodName)) ∈ TB := TB_in 475 (by decide +kernel) (by decide +kernel)
theorem tb_476 : (Jvm.Cond.instanceMethod ({ cls := "WeightedForest$Survey", name := "firstWideEnd", desc := "(I)I" } : Jvm.MethodName)) ∈ TB := TB_in 476 (by decide +kernel) (by decide +kernel)
theorem tb_477 : (Jvm.Cond.selects "WeightedForest$Survey" ({ cls := "WeightedForest$Survey", name := "firstWideEnd", desc := "(I)I" } : Jvm.MethodName) ({ cls := "WeightedForest$Survey", name := "firstWideEnd", desc := "(I)I" } : Jvm.MethodName)) ∈ TB := TB_in 477 (by decide +kernel) (by decide +kernel)
theorem tb_478 : (Jvm.Cond.code ({ cls := "WeightedForest$Survey", name := "firstWideEnd", desc := "(I)I" } : Jvm.MethodName) prog_7_method_13_code (5 : Nat) (Option.some Jvm.ClassFile.FieldType.int)) ∈ TB := TB_in 478 (by decide +kernel) (by decide +kernel)
theorem tb_479 : (Jvm.Cond.methodLink "WeightedForest$Survey" (64 : Nat) ({ cls := "WeightedForest$Survey", name := "greatestFrom", desc := "(I)I" } : Jvm.MethodName)) ∈ TB := TB_in 479 (by decide +kernel) (by decide +kernel)
theorem tb_480 : (Jvm.Cond.methodLink "WeightedForestLaw" (81 : Nat) ({ cls := "WeightedForest", name := "diameterEnd", desc := "(II)I" } : Jvm.MethodName)) ∈ TB := TB_in 480 (by decide +kernel) (by decide +kernel)
theorem tb_481 : (Jvm.Cond.instanceMethod ({ cls := "WeightedForest", name := "diameterEnd", desc := "(II)I" } : Jvm.MethodName)) ∈ TB := TB_in 481 (by decide +kernel) (by decide +kernel)
theorem tb_482 : (Jvm.Cond.selects "WeightedForest" ({ cls := "WeightedForest", name := "diameterEnd", desc := "(II)I" } : Jvm.MethodName) ({ cls := "WeightedForest", name := "diameterEnd", desc := "(II)I" } : Jvm.MethodName)) ∈ TB := TB_in 482 (by decide +kernel) (by decide +kernel)
theorem tb_483 : (Jvm.Cond.code ({ cls := "WeightedForest", name := "diameterEnd", desc := "(II)I" } : Jvm.MethodName) prog_1_method_21_code (4 : Nat) (Option.some Jvm.ClassFile.FieldType.int)) ∈ TB := TB_in 483 (by decide +kernel) (by decide +kernel)
theorem tb_484 : (Jvm.Cond.methodLink "WeightedForest" (158 : Nat) ({ cls := "WeightedForest$Survey", name := "firstWideEnd", desc := "(I)I" } : Jvm.MethodName)) ∈ TB := TB_in 484 (by decide +kernel) (by decide +kernel)
theorem tb_485 : (Jvm.Cond.methodLink "WeightedForest" (161 : Nat) ({ cls := "WeightedForest$Survey", name := "firstFarthest", desc := "(I)I" } : Jvm.MethodName)) ∈ TB := TB_in 485 (by decide +kernel) (by decide +kernel)
theorem tb_486 : (Jvm.Cond.methodLink "WeightedForestLaw" (85 : Nat) ({ cls := "WeightedForest", name := "centre", desc := "(I)I" } : Jvm.MethodName)) ∈ TB := TB_in 486 (by decide +kernel) (by decide +kernel)
theorem tb_487 : (Jvm.Cond.instanceMethod ({ cls := "WeightedForest", name := "centre", desc := "(I)I" } : Jvm.MethodName)) ∈ TB := TB_in 487 (by decide +kernel) (by decide +kernel)
theorem tb_488 : (Jvm.Cond.selects "WeightedForest" ({ cls := "WeightedForest", name := "centre", desc := "(I)I" } : Jvm.MethodName) ({ cls := "WeightedForest", name := "centre", desc := "(I)I" } : Jvm.MethodName)) ∈ TB := TB_in 488 (by decide +kernel) (by decide +kernel)
theorem tb_489 : (Jvm.Cond.code ({ cls := "WeightedForest", name := "centre", desc := "(I)I" } : Jvm.MethodName) prog_1_method_22_code (2 : Nat) (Option.some Jvm.ClassFile.FieldType.int)) ∈ TB := TB_in 489 (by decide +kernel) (by decide +kernel)
theorem tb_490 : (Jvm.Cond.methodLink "WeightedForest" (164 : Nat) ({ cls := "WeightedForest$Survey", name := "middleOf", desc := "(I)I" } : Jvm.MethodName)) ∈ TB := TB_in 490 (by decide +kernel) (by decide +kernel)
theorem tb_491 : (Jvm.Cond.instanceMethod ({ cls := "WeightedForest$Survey", name := "middleOf", desc := "(I)I" } : Jvm.MethodName)) ∈ TB := TB_in 491 (by decide +kernel) (by decide +kernel)
theorem tb_492 : (Jvm.Cond.selects "WeightedForest$Survey" ({ cls := "WeightedForest$Survey", name := "middleOf", desc := "(I)I" } : Jvm.MethodName) ({ cls := "WeightedForest$Survey", name := "middleOf", desc := "(I)I" } : Jvm.MethodName)) ∈ TB := TB_in 492 (by decide +kernel) (by decide +kernel)
theorem tb_493 : (Jvm.Cond.code ({ cls := "WeightedForest$Survey", name := "middleOf", desc := "(I)I" } : Jvm.MethodName) prog_7_method_14_code (5 : Nat) (Option.some Jvm.ClassFile.FieldType.int)) ∈ TB := TB_in 493 (by decide +kernel) (by decide +kernel)
theorem tb_494 : (Jvm.Cond.constant "WeightedForest$Survey" (67 : Nat) (1000000000 : Int32)) ∈ TB := TB_in 494 (by decide +kernel) (by decide +kernel)
theorem tb_495 : (Jvm.Cond.methodLink "WeightedForestLaw" (89 : Nat) ({ cls := "WeightedForest", name := "median", desc := "(I)I" } : Jvm.MethodName)) ∈ TB := TB_in 495 (by decide +kernel) (by decide +kernel)
theorem tb_496 : (Jvm.Cond.instanceMethod ({ cls := "WeightedForest", name := "median", desc := "(I)I" } : Jvm.MethodName)) ∈ TB := TB_in 496 (by decide +kernel) (by decide +kernel)
theorem tb_497 : (Jvm.Cond.selects "WeightedForest" ({ cls := "WeightedForest", name := "median", desc := "(I)I" } : Jvm.MethodName) ({ cls := "WeightedForest", name := "median", desc := "(I)I" } : Jvm.MethodName)) ∈ TB := TB_in 497 (by decide +kernel) (by decide +kernel)
theorem tb_498 : (Jvm.Cond.code ({ cls := "WeightedForest", name := "median", desc := "(I)I" } : Jvm.MethodName) prog_1_method_23_code (2 : Nat) (Option.some Jvm.ClassFile.FieldType.int)) ∈ TB := TB_in 498 (by decide +kernel) (by decide +kernel)
theorem tb_499 : (Jvm.Cond.methodLink "WeightedForest" (167 : Nat) ({ cls := "WeightedForest$Survey", name := "cheapestOf", desc := "(I)I" } : Jvm.MethodName)) ∈ TB := TB_in 499 (by decide +kernel) (by decide +kernel)
theorem tb_500 : (Jvm.Cond.instanceMethod ({ cls := "WeightedForest$Survey", name := "cheapestOf", desc := "(I)I" } : Jvm.MethodName)) ∈ TB := TB_in 500 (by decide +kernel) (by decide +kernel)
theorem tb_501 : (Jvm.Cond.selects "WeightedForest$Survey" ({ cls := "WeightedForest$Survey", name := "cheapestOf", desc := "(I)I" } : Jvm.MethodName) ({ cls := "WeightedForest$Survey", name := "cheapestOf", desc := "(I)I" } : Jvm.MethodName)) ∈ TB := TB_in 501 (by decide +kernel) (by decide +kernel)
theorem tb_502 : (Jvm.Cond.code ({ cls := "WeightedForest$Survey", name := "cheapestOf", desc := "(I)I" } : Jvm.MethodName) prog_7_method_16_code (5 : Nat) (Option.some Jvm.ClassFile.FieldType.int)) ∈ TB := TB_in 502 (by decide +kernel) (by decide +kernel)
theorem tb_503 : (Jvm.Cond.methodLink "WeightedForest$Survey" (71 : Nat) ({ cls := "WeightedForest$Survey", name := "priceOf", desc := "(I)I" } : Jvm.MethodName)) ∈ TB := TB_in 503 (by decide +kernel) (by decide +kernel)
theorem tb_504 : (Jvm.Cond.instanceMethod ({ cls := "WeightedForest$Survey", name := "priceOf", desc := "(I)I" } : Jvm.MethodName)) ∈ TB := TB_in 504 (by decide +kernel) (by decide +kernel)
theorem tb_505 : (Jvm.Cond.selects "WeightedForest$Survey" ({ cls := "WeightedForest$Survey", name := "priceOf", desc := "(I)I" } : Jvm.MethodName) ({ cls := "WeightedForest$Survey", name := "priceOf", desc := "(I)I" } : Jvm.MethodName)) ∈ TB := TB_in 505 (by decide +kernel) (by decide +kernel)
theorem tb_506 : (Jvm.Cond.code ({ cls := "WeightedForest$Survey", name := "priceOf", desc := "(I)I" } : Jvm.MethodName) prog_7_method_15_code (4 : Nat) (Option.some Jvm.ClassFile.FieldType.int)) ∈ TB := TB_in 506 (by decide +kernel) (by decide +kernel)
theorem tb_507 : (Jvm.Cond.methodLink "WeightedForest$Survey" (68 : Nat) ({ cls := "WeightedForest$Forest", name := "weightOf", desc := "(I)I" } : Jvm.MethodName)) ∈ TB := TB_in 507 (by decide +kernel) (by decide +kernel)
theorem tb_508 : (Jvm.Cond.methodLink "WeightedForestLaw" (93 : Nat) ({ cls := "WeightedForest", name := "cost", desc := "(I)I" } : Jvm.MethodName)) ∈ TB := TB_in 508 (by decide +kernel) (by decide +kernel)
theorem tb_509 : (Jvm.Cond.instanceMethod ({ cls := "WeightedForest", name := "cost", desc := "(I)I" } : Jvm.MethodName)) ∈ TB := TB_in 509 (by decide +kernel) (by decide +kernel)
theorem tb_510 : (Jvm.Cond.selects "WeightedForest" ({ cls := "WeightedForest", name := "cost", desc := "(I)I" } : Jvm.MethodName) ({ cls := "WeightedForest", name := "cost", desc := "(I)I" } : Jvm.MethodName)) ∈ TB := TB_in 510 (by decide +kernel) (by decide +kernel)
theorem tb_511 : (Jvm.Cond.code ({ cls := "WeightedForest", name := "cost", desc := "(I)I" } : Jvm.MethodName) prog_1_method_24_code (2 : Nat) (Option.some Jvm.ClassFile.FieldType.int)) ∈ TB := TB_in 511 (by decide +kernel) (by decide +kernel)
theorem tb_512 : (Jvm.Cond.methodLink "WeightedForest" (170 : Nat) ({ cls := "WeightedForest$Survey", name := "priceOf", desc := "(I)I" } : Jvm.MethodName)) ∈ TB := TB_in 512 (by decide +kernel) (by decide +kernel)
theorem tb_513 : (Jvm.Cond.methodLink "WeightedForestLaw" (97 : Nat) ({ cls := "WeightedForest", name := "meeting", desc := "(III)I" } : Jvm.MethodName)) ∈ TB := TB_in 513 (by decide +kernel) (by decide +kernel)
theorem tb_514 : (Jvm.Cond.instanceMethod ({ cls := "WeightedForest", name := "meeting", desc := "(III)I" } : Jvm.MethodName)) ∈ TB := TB_in 514 (by decide +kernel) (by decide +kernel)
theorem tb_515 : (Jvm.Cond.selects "WeightedForest" ({ cls := "WeightedForest", name := "meeting", desc := "(III)I" } : Jvm.MethodName) ({ cls := "WeightedForest", name := "meeting", desc := "(III)I" } : Jvm.MethodName)) ∈ TB := TB_in 515 (by decide +kernel) (by decide +kernel)
theorem tb_516 : (Jvm.Cond.code ({ cls := "WeightedForest", name := "meeting", desc := "(III)I" } : Jvm.MethodName) prog_1_method_25_code (4 : Nat) (Option.some Jvm.ClassFile.FieldType.int)) ∈ TB := TB_in 516 (by decide +kernel) (by decide +kernel)
theorem tb_517 : (Jvm.Cond.methodLink "WeightedForest" (173 : Nat) ({ cls := "WeightedForest$Survey", name := "meetingOf", desc := "(III)I" } : Jvm.MethodName)) ∈ TB := TB_in 517 (by decide +kernel) (by decide +kernel)
theorem tb_518 : (Jvm.Cond.instanceMethod ({ cls := "WeightedForest$Survey", name := "meetingOf", desc := "(III)I" } : Jvm.MethodName)) ∈ TB := TB_in 518 (by decide +kernel) (by decide +kernel)
theorem tb_519 : (Jvm.Cond.selects "WeightedForest$Survey" ({ cls := "WeightedForest$Survey", name := "meetingOf", desc := "(III)I" } : Jvm.MethodName) ({ cls := "WeightedForest$Survey", name := "meetingOf", desc := "(III)I" } : Jvm.MethodName)) ∈ TB := TB_in 519 (by decide +kernel) (by decide +kernel)
theorem tb_520 : (Jvm.Cond.code ({ cls := "WeightedForest$Survey", name := "meetingOf", desc := "(III)I" } : Jvm.MethodName) prog_7_method_17_code (5 : Nat) (Option.some Jvm.ClassFile.FieldType.int)) ∈ TB := TB_in 520 (by decide +kernel) (by decide +kernel)
theorem tb_521 : (Jvm.Cond.methodLink "WeightedForest$Survey" (74 : Nat) ({ cls := "WeightedForest$Survey", name := "onPath", desc := "(III)Z" } : Jvm.MethodName)) ∈ TB := TB_in 521 (by decide +kernel) (by decide +kernel)
theorem tb_523 : (Jvm.Cond.instanceMethod ({ cls := "WeightedForest$Survey", name := "onPath", desc := "(III)Z" } : Jvm.MethodName)) ∈ TB := TB_in 523 (by decide +kernel) (by decide +kernel)
theorem tb_524 : (Jvm.Cond.code ({ cls := "WeightedForest$Survey", name := "onPath", desc := "(III)Z" } : Jvm.MethodName) prog_7_method_18_code (4 : Nat) (Option.some Jvm.ClassFile.FieldType.boolean)) ∈ TB := TB_in 524 (by decide +kernel) (by decide +kernel)
theorem tb_525 : (Jvm.Cond.methodLink "WeightedForestLaw" (101 : Nat) ({ cls := "WeightedForest", name := "rounds", desc := "(I)I" } : Jvm.MethodName)) ∈ TB := TB_in 525 (by decide +kernel) (by decide +kernel)
theorem tb_526 : (Jvm.Cond.instanceMethod ({ cls := "WeightedForest", name := "rounds", desc := "(I)I" } : Jvm.MethodName)) ∈ TB := TB_in 526 (by decide +kernel) (by decide +kernel)
theorem tb_527 : (Jvm.Cond.selects "WeightedForest" ({ cls := "WeightedForest", name := "rounds", desc := "(I)I" } : Jvm.MethodName) ({ cls := "WeightedForest", name := "rounds", desc := "(I)I" } : Jvm.MethodName)) ∈ TB := TB_in 527 (by decide +kernel) (by decide +kernel)
theorem tb_528 : (Jvm.Cond.code ({ cls := "WeightedForest", name := "rounds", desc := "(I)I" } : Jvm.MethodName) prog_1_method_26_code (2 : Nat) (Option.some Jvm.ClassFile.FieldType.int)) ∈ TB := TB_in 528 (by decide +kernel) (by decide +kernel)
theorem tb_529 : (Jvm.Cond.methodLink "WeightedForest" (176 : Nat) ({ cls := "WeightedForest$Contraction", name := "contract", desc := "(LWeightedForest$Forest;I)V" } : Jvm.MethodName)) ∈ TB := TB_in 529 (by decide +kernel) (by decide +kernel)
theorem tb_530 : (Jvm.Cond.instanceMethod ({ cls := "WeightedForest$Contraction", name := "contract", desc := "(LWeightedForest$Forest;I)V" } : Jvm.MethodName)) ∈ TB := TB_in 530 (by decide +kernel) (by decide +kernel)
theorem tb_531 : (Jvm.Cond.selects "WeightedForest$Contraction" ({ cls := "WeightedForest$Contraction", name := "contract", desc := "(LWeightedForest$Forest;I)V" } : Jvm.MethodName) ({ cls := "WeightedForest$Contraction", name := "contract", desc := "(LWeightedForest$Forest;I)V" } : Jvm.MethodName)) ∈ TB := TB_in 531 (by decide +kernel) (by decide +kernel)
theorem tb_532 : (Jvm.Cond.code ({ cls := "WeightedForest$Contraction", name := "contract", desc := "(LWeightedForest$Forest;I)V" } : Jvm.MethodName) prog_2_method_2_code (3 : Nat) (Option.none : Option Jvm.ClassFile.FieldType)) ∈ TB := TB_in 532 (by decide +kernel) (by decide +kernel)
theorem tb_533 : (Jvm.Cond.methodLink "WeightedForest$Contraction" (27 : Nat) ({ cls := "WeightedForest$Contraction", name := "copyEdges", desc := "(LWeightedForest$Forest;)V" } : Jvm.MethodName)) ∈ TB := TB_in 533 (by decide +kernel) (by decide +kernel)
theorem tb_535 : (Jvm.Cond.instanceMethod ({ cls := "WeightedForest$Contraction", name := "copyEdges", desc := "(LWeightedForest$Forest;)V" } : Jvm.MethodName)) ∈ TB := TB_in 535 (by decide +kernel) (by decide +kernel)
theorem tb_536 : (Jvm.Cond.code ({ cls := "WeightedForest$Contraction", name := "copyEdges", desc := "(LWeightedForest$Forest;)V" } : Jvm.MethodName) prog_2_method_7_code (4 : Nat) (Option.none : Option Jvm.ClassFile.FieldType)) ∈ TB := TB_in 536 (by decide +kernel) (by decide +kernel)
theorem tb_537 : (Jvm.Cond.methodLink "WeightedForest$Contraction" (55 : Nat) ({ cls := "WeightedForest$Forest", name := "vertices", desc := "()I" } : Jvm.MethodName)) ∈ TB := TB_in 537 (by decide +kernel) (by decide +kernel)
theorem tb_538 : (Jvm.Cond.methodLink "WeightedForest$Contraction" (61 : Nat) ({ cls := "WeightedForest$Forest", name := "edgeBetween", desc := "(II)I" } : Jvm.MethodName)) ∈ TB := TB_in 538 (by decide +kernel) (by decide +kernel)
theorem tb_539 : (Jvm.Cond.methodLink "WeightedForest$Contraction" (31 : Nat) ({ cls := "WeightedForest$Contraction", name := "gatherTree", desc := "(I)V" } : Jvm.MethodName)) ∈ TB := TB_in 539 (by decide +kernel) (by decide +kernel)
theorem tb_541 : (Jvm.Cond.instanceMethod ({ cls := "WeightedForest$Contraction", name := "gatherTree", desc := "(I)V" } : Jvm.MethodName)) ∈ TB := TB_in 541 (by decide +kernel) (by decide +kernel)
theorem tb_542 : (Jvm.Cond.code ({ cls := "WeightedForest$Contraction", name := "gatherTree", desc := "(I)V" } : Jvm.MethodName) prog_2_method_8_code (3 : Nat) (Option.none : Option Jvm.ClassFile.FieldType)) ∈ TB := TB_in 542 (by decide +kernel) (by decide +kernel)
theorem tb_543 : (Jvm.Cond.methodLink "WeightedForest$Contraction" (48 : Nat) ({ cls := "WeightedForest$Contraction", name := "isVertex", desc := "(I)Z" } : Jvm.MethodName)) ∈ TB := TB_in 543 (by decide +kernel) (by decide +kernel)
theorem tb_545 : (Jvm.Cond.instanceMethod ({ cls := "WeightedForest$Contraction", name := "isVertex", desc := "(I)Z" } : Jvm.MethodName)) ∈ TB := TB_in 545 (by decide +kernel) (by decide +kernel)
theorem tb_546 : (Jvm.Cond.code ({ cls := "WeightedForest$Contraction", name := "isVertex", desc := "(I)Z" } : Jvm.MethodName) prog_2_method_6_code (2 : Nat) (Option.some Jvm.ClassFile.FieldType.boolean)) ∈ TB := TB_in 546 (by decide +kernel) (by decide +kernel)
theorem tb_547 : (Jvm.Cond.methodLink "WeightedForest$Contraction" (65 : Nat) ({ cls := "WeightedForest$Contraction", name := "gatherNeighbours", desc := "()V" } : Jvm.MethodName)) ∈ TB := TB_in 547 (by decide +kernel) (by decide +kernel)
theorem tb_549 : (Jvm.Cond.instanceMethod ({ cls := "WeightedForest$Contraction", name := "gatherNeighbours", desc := "()V" } : Jvm.MethodName)) ∈ TB := TB_in 549 (by decide +kernel) (by decide +kernel)
theorem tb_550 : (Jvm.Cond.code ({ cls := "WeightedForest$Contraction", name := "gatherNeighbours", desc := "()V" } : Jvm.MethodName) prog_2_method_9_code (3 : Nat) (Option.none : Option Jvm.ClassFile.FieldType)) ∈ TB := TB_in 550 (by decide +kernel) (by decide +kernel)
theorem tb_551 : (Jvm.Cond.methodLink "WeightedForest$Contraction" (42 : Nat) ({ cls := "WeightedForest$Contraction", name := "rake", desc := "()V" } : Jvm.MethodName)) ∈ TB := TB_in 551 (by decide +kernel) (by decide +kernel)
theorem tb_553 : (Jvm.Cond.instanceMethod ({ cls := "WeightedForest$Contraction", name := "rake", desc := "()V" } : Jvm.MethodName)) ∈ TB := TB_in 553 (by decide +kernel) (by decide +kernel)
theorem tb_554 : (Jvm.Cond.code ({ cls := "WeightedForest$Contraction", name := "rake", desc := "()V" } : Jvm.MethodName) prog_2_method_10_code (2 : Nat) (Option.none : Option Jvm.ClassFile.FieldType)) ∈ TB := TB_in 554 (by decide +kernel) (by decide +kernel)
theorem tb_555 : (Jvm.Cond.methodLink "WeightedForest$Contraction" (68 : Nat) ({ cls := "WeightedForest$Contraction", name := "removeGreatest", desc := "()V" } : Jvm.MethodName)) ∈ TB := TB_in 555 (by decide +kernel) (by decide +kernel)
theorem tb_557 : (Jvm.Cond.instanceMethod ({ cls := "WeightedForest$Contraction", name := "removeGreatest", desc := "()V" } : Jvm.MethodName)) ∈ TB := TB_in 557 (by decide +kernel) (by decide +kernel)
theorem tb_558 : (Jvm.Cond.code ({ cls := "WeightedForest$Contraction", name := "removeGreatest", desc := "()V" } : Jvm.MethodName) prog_2_method_11_code (2 : Nat) (Option.none : Option Jvm.ClassFile.FieldType)) ∈ TB := TB_in 558 (by decide +kernel) (by decide +kernel)
theorem tb_559 : (Jvm.Cond.methodLink "WeightedForest$Contraction" (75 : Nat) ({ cls := "WeightedForest$Contraction", name := "remove", desc := "(I)V" } : Jvm.MethodName)) ∈ TB := TB_in 559 (by decide +kernel) (by decide +kernel)
theorem tb_561 : (Jvm.Cond.instanceMethod ({ cls := "WeightedForest$Contraction", name := "remove", desc := "(I)V" } : Jvm.MethodName)) ∈ TB := TB_in 561 (by decide +kernel) (by decide +kernel)
theorem tb_562 : (Jvm.Cond.code ({ cls := "WeightedForest$Contraction", name := "remove", desc := "(I)V" } : Jvm.MethodName) prog_2_method_17_code (3 : Nat) (Option.none : Option Jvm.ClassFile.FieldType)) ∈ TB := TB_in 562 (by decide +kernel) (by decide +kernel)
theorem tb_563 : (Jvm.Cond.methodLink "WeightedForest$Contraction" (71 : Nat) ({ cls := "WeightedForest$Contraction", name := "degreeOf", desc := "(I)I" } : Jvm.MethodName)) ∈ TB := TB_in 563 (by decide +kernel) (by decide +kernel)
theorem tb_565 : (Jvm.Cond.instanceMethod ({ cls := "WeightedForest$Contraction", name := "degreeOf", desc := "(I)I" } : Jvm.MethodName)) ∈ TB := TB_in 565 (by decide +kernel) (by decide +kernel)
theorem tb_566 : (Jvm.Cond.code ({ cls := "WeightedForest$Contraction", name := "degreeOf", desc := "(I)I" } : Jvm.MethodName) prog_2_method_16_code (4 : Nat) (Option.some Jvm.ClassFile.FieldType.int)) ∈ TB := TB_in 566 (by decide +kernel) (by decide +kernel)
theorem tb_567 : (Jvm.Cond.methodLink "WeightedForest$Contraction" (45 : Nat) ({ cls := "WeightedForest$Contraction", name := "compress", desc := "()V" } : Jvm.MethodName)) ∈ TB := TB_in 567 (by decide +kernel) (by decide +kernel)
theorem tb_569 : (Jvm.Cond.instanceMethod ({ cls := "WeightedForest$Contraction", name := "compress", desc := "()V" } : Jvm.MethodName)) ∈ TB := TB_in 569 (by decide +kernel) (by decide +kernel)
theorem tb_570 : (Jvm.Cond.code ({ cls := "WeightedForest$Contraction", name := "compress", desc := "()V" } : Jvm.MethodName) prog_2_method_12_code (2 : Nat) (Option.none : Option Jvm.ClassFile.FieldType)) ∈ TB := TB_in 570 (by decide +kernel) (by decide +kernel)
theorem tb_571 : (Jvm.Cond.methodLink "WeightedForest$Contraction" (78 : Nat) ({ cls := "WeightedForest$Contraction", name := "makeEdgesOld", desc := "()V" } : Jvm.MethodName)) ∈ TB := TB_in 571 (by decide +kernel) (by decide +kernel)
theorem tb_573 : (Jvm.Cond.instanceMethod ({ cls := "WeightedForest$Contraction", name := "makeEdgesOld", desc := "()V" } : Jvm.MethodName)) ∈ TB := TB_in 573 (by decide +kernel) (by decide +kernel)
theorem tb_574 : (Jvm.Cond.code ({ cls := "WeightedForest$Contraction", name := "makeEdgesOld", desc := "()V" } : Jvm.MethodName) prog_2_method_13_code (3 : Nat) (Option.none : Option Jvm.ClassFile.FieldType)) ∈ TB := TB_in 574 (by decide +kernel) (by decide +kernel)
theorem tb_575 : (Jvm.Cond.methodLink "WeightedForest$Contraction" (84 : Nat) ({ cls := "java/lang/Math", name := "min", desc := "(II)I" } : Jvm.MethodName)) ∈ TB := TB_in 575 (by decide +kernel) (by decide +kernel)
theorem tb_576 : (Jvm.Cond.methodLink "WeightedForest$Contraction" (81 : Nat) ({ cls := "WeightedForest$Contraction", name := "bypass", desc := "(I)V" } : Jvm.MethodName)) ∈ TB := TB_in 576 (by decide +kernel) (by decide +kernel)
theorem tb_578 : (Jvm.Cond.instanceMethod ({ cls := "WeightedForest$Contraction", name := "bypass", desc := "(I)V" } : Jvm.MethodName)) ∈ TB := TB_in 578 (by decide +kernel) (by decide +kernel)
theorem tb_579 : (Jvm.Cond.code ({ cls := "WeightedForest$Contraction", name := "bypass", desc := "(I)V" } : Jvm.MethodName) prog_2_method_14_code (4 : Nat) (Option.none : Option Jvm.ClassFile.FieldType)) ∈ TB := TB_in 579 (by decide +kernel) (by decide +kernel)
theorem tb_580 : (Jvm.Cond.methodLink "WeightedForest$Contraction" (89 : Nat) ({ cls := "WeightedForest$Contraction", name := "neighbourAfter", desc := "(II)I" } : Jvm.MethodName)) ∈ TB := TB_in 580 (by decide +kernel) (by decide +kernel)
theorem tb_582 : (Jvm.Cond.instanceMethod ({ cls := "WeightedForest$Contraction", name := "neighbourAfter", desc := "(II)I" } : Jvm.MethodName)) ∈ TB := TB_in 582 (by decide +kernel) (by decide +kernel)
theorem tb_583 : (Jvm.Cond.code ({ cls := "WeightedForest$Contraction", name := "neighbourAfter", desc := "(II)I" } : Jvm.MethodName) prog_2_method_15_code (4 : Nat) (Option.some Jvm.ClassFile.FieldType.int)) ∈ TB := TB_in 583 (by decide +kernel) (by decide +kernel)
theorem tb_584 : (Jvm.Cond.methodLink "WeightedForest" (180 : Nat) ({ cls := "WeightedForest$Contraction", name := "roundCount", desc := "()I" } : Jvm.MethodName)) ∈ TB := TB_in 584 (by decide +kernel) (by decide +kernel)
theorem tb_585 : (Jvm.Cond.instanceMethod ({ cls := "WeightedForest$Contraction", name := "roundCount", desc := "()I" } : Jvm.MethodName)) ∈ TB := TB_in 585 (by decide +kernel) (by decide +kernel)
theorem tb_586 : (Jvm.Cond.selects "WeightedForest$Contraction" ({ cls := "WeightedForest$Contraction", name := "roundCount", desc := "()I" } : Jvm.MethodName) ({ cls := "WeightedForest$Contraction", name := "roundCount", desc := "()I" } : Jvm.MethodName)) ∈ TB := TB_in 586 (by decide +kernel) (by decide +kernel)
theorem tb_587 : (Jvm.Cond.code ({ cls := "WeightedForest$Contraction", name := "roundCount", desc := "()I" } : Jvm.MethodName) prog_2_method_3_code (1 : Nat) (Option.some Jvm.ClassFile.FieldType.int)) ∈ TB := TB_in 587 (by decide +kernel) (by decide +kernel)
theorem tb_588 : (Jvm.Cond.methodLink "WeightedForestLaw" (105 : Nat) ({ cls := "WeightedForest", name := "removalRound", desc := "(I)I" } : Jvm.MethodName)) ∈ TB := TB_in 588 (by decide +kernel) (by decide +kernel)
theorem tb_589 : (Jvm.Cond.instanceMethod ({ cls := "WeightedForest", name := "removalRound", desc := "(I)I" } : Jvm.MethodName)) ∈ TB := TB_in 589 (by decide +kernel) (by decide +kernel)
theorem tb_590 : (Jvm.Cond.selects "WeightedForest" ({ cls := "WeightedForest", name := "removalRound", desc := "(I)I" } : Jvm.MethodName) ({ cls := "WeightedForest", name := "removalRound", desc := "(I)I" } : Jvm.MethodName)) ∈ TB := TB_in 590 (by decide +kernel) (by decide +kernel)
theorem tb_591 : (Jvm.Cond.code ({ cls := "WeightedForest", name := "removalRound", desc := "(I)I" } : Jvm.MethodName) prog_1_method_27_code (2 : Nat) (Option.some Jvm.ClassFile.FieldType.int)) ∈ TB := TB_in 591 (by decide +kernel) (by decide +kernel)
theorem tb_592 : (Jvm.Cond.methodLink "WeightedForest" (183 : Nat) ({ cls := "WeightedForest$Contraction", name := "roundOf", desc := "(I)I" } : Jvm.MethodName)) ∈ TB := TB_in 592 (by decide +kernel) (by decide +kernel)
theorem tb_593 : (Jvm.Cond.instanceMethod ({ cls := "WeightedForest$Contraction", name := "roundOf", desc := "(I)I" } : Jvm.MethodName)) ∈ TB := TB_in 593 (by decide +kernel) (by decide +kernel)
theorem tb_594 : (Jvm.Cond.selects "WeightedForest$Contraction" ({ cls := "WeightedForest$Contraction", name := "roundOf", desc := "(I)I" } : Jvm.MethodName) ({ cls := "WeightedForest$Contraction", name := "roundOf", desc := "(I)I" } : Jvm.MethodName)) ∈ TB := TB_in 594 (by decide +kernel) (by decide +kernel)
theorem tb_595 : (Jvm.Cond.code ({ cls := "WeightedForest$Contraction", name := "roundOf", desc := "(I)I" } : Jvm.MethodName) prog_2_method_4_code (2 : Nat) (Option.some Jvm.ClassFile.FieldType.int)) ∈ TB := TB_in 595 (by decide +kernel) (by decide +kernel)
theorem tb_596 : (Jvm.Cond.methodLink "WeightedForestLaw" (109 : Nat) ({ cls := "WeightedForest", name := "survivor", desc := "(I)I" } : Jvm.MethodName)) ∈ TB := TB_in 596 (by decide +kernel) (by decide +kernel)
theorem tb_597 : (Jvm.Cond.instanceMethod ({ cls := "WeightedForest", name := "survivor", desc := "(I)I" } : Jvm.MethodName)) ∈ TB := TB_in 597 (by decide +kernel) (by decide +kernel)
theorem tb_598 : (Jvm.Cond.selects "WeightedForest" ({ cls := "WeightedForest", name := "survivor", desc := "(I)I" } : Jvm.MethodName) ({ cls := "WeightedForest", name := "survivor", desc := "(I)I" } : Jvm.MethodName)) ∈ TB := TB_in 598 (by decide +kernel) (by decide +kernel)
theorem tb_599 : (Jvm.Cond.code ({ cls := "WeightedForest", name := "survivor", desc := "(I)I" } : Jvm.MethodName) prog_1_method_28_code (2 : Nat) (Option.some Jvm.ClassFile.FieldType.int)) ∈ TB := TB_in 599 (by decide +kernel) (by decide +kernel)
theorem tb_600 : (Jvm.Cond.methodLink "WeightedForest" (186 : Nat) ({ cls := "WeightedForest$Contraction", name := "lastVertex", desc := "()I" } : Jvm.MethodName)) ∈ TB := TB_in 600 (by decide +kernel) (by decide +kernel)
theorem tb_601 : (Jvm.Cond.instanceMethod ({ cls := "WeightedForest$Contraction", name := "lastVertex", desc := "()I" } : Jvm.MethodName)) ∈ TB := TB_in 601 (by decide +kernel) (by decide +kernel)
theorem tb_602 : (Jvm.Cond.selects "WeightedForest$Contraction" ({ cls := "WeightedForest$Contraction", name := "lastVertex", desc := "()I" } : Jvm.MethodName) ({ cls := "WeightedForest$Contraction", name := "lastVertex", desc := "()I" } : Jvm.MethodName)) ∈ TB := TB_in 602 (by decide +kernel) (by decide +kernel)
theorem tb_603 : (Jvm.Cond.code ({ cls := "WeightedForest$Contraction", name := "lastVertex", desc := "()I" } : Jvm.MethodName) prog_2_method_5_code (2 : Nat) (Option.some Jvm.ClassFile.FieldType.int)) ∈ TB := TB_in 603 (by decide +kernel) (by decide +kernel)
theorem tb_604 : (Jvm.Cond.methodLink "WeightedForestLaw" (113 : Nat) ({ cls := "WeightedForest", name := "balancedCut", desc := "(I)I" } : Jvm.MethodName)) ∈ TB := TB_in 604 (by decide +kernel) (by decide +kernel)
theorem tb_605 : (Jvm.Cond.instanceMethod ({ cls := "WeightedForest", name := "balancedCut", desc := "(I)I" } : Jvm.MethodName)) ∈ TB := TB_in 605 (by decide +kernel) (by decide +kernel)
theorem tb_606 : (Jvm.Cond.selects "WeightedForest" ({ cls := "WeightedForest", name := "balancedCut", desc := "(I)I" } : Jvm.MethodName) ({ cls := "WeightedForest", name := "balancedCut", desc := "(I)I" } : Jvm.MethodName)) ∈ TB := TB_in 606 (by decide +kernel) (by decide +kernel)
theorem tb_607 : (Jvm.Cond.code ({ cls := "WeightedForest", name := "balancedCut", desc := "(I)I" } : Jvm.MethodName) prog_1_method_29_code (2 : Nat) (Option.some Jvm.ClassFile.FieldType.int)) ∈ TB := TB_in 607 (by decide +kernel) (by decide +kernel)
theorem tb_608 : (Jvm.Cond.methodLink "WeightedForest" (189 : Nat) ({ cls := "WeightedForest$Survey", name := "evenestEdge", desc := "(I)I" } : Jvm.MethodName)) ∈ TB := TB_in 608 (by decide +kernel) (by decide +kernel)
theorem tb_609 : (Jvm.Cond.instanceMethod ({ cls := "WeightedForest$Survey", name := "evenestEdge", desc := "(I)I" } : Jvm.MethodName)) ∈ TB := TB_in 609 (by decide +kernel) (by decide +kernel)
theorem tb_610 : (Jvm.Cond.selects "WeightedForest$Survey" ({ cls := "WeightedForest$Survey", name := "evenestEdge", desc := "(I)I" } : Jvm.MethodName) ({ cls := "WeightedForest$Survey", name := "evenestEdge", desc := "(I)I" } : Jvm.MethodName)) ∈ TB := TB_in 610 (by decide +kernel) (by decide +kernel)
theorem tb_611 : (Jvm.Cond.code ({ cls := "WeightedForest$Survey", name := "evenestEdge", desc := "(I)I" } : Jvm.MethodName) prog_7_method_20_code (6 : Nat) (Option.some Jvm.ClassFile.FieldType.int)) ∈ TB := TB_in 611 (by decide +kernel) (by decide +kernel)
theorem tb_612 : (Jvm.Cond.methodLink "WeightedForest$Survey" (78 : Nat) ({ cls := "WeightedForest$Survey", name := "heavierPart", desc := "(II)I" } : Jvm.MethodName)) ∈ TB := TB_in 612 (by decide +kernel) (by decide +kernel)
theorem tb_614 : (Jvm.Cond.instanceMethod ({ cls := "WeightedForest$Survey", name := "heavierPart", desc := "(II)I" } : Jvm.MethodName)) ∈ TB := TB_in 614 (by decide +kernel) (by decide +kernel)
theorem tb_615 : (Jvm.Cond.code ({ cls := "WeightedForest$Survey", name := "heavierPart", desc := "(II)I" } : Jvm.MethodName) prog_7_method_21_code (6 : Nat) (Option.some Jvm.ClassFile.FieldType.int)) ∈ TB := TB_in 615 (by decide +kernel) (by decide +kernel)
theorem tb_616 : (Jvm.Cond.methodLink "WeightedForest$Survey" (81 : Nat) ({ cls := "java/lang/Math", name := "max", desc := "(II)I" } : Jvm.MethodName)) ∈ TB := TB_in 616 (by decide +kernel) (by decide +kernel)
theorem tb_617 : (Jvm.Cond.methodLink "WeightedForestLaw" (117 : Nat) ({ cls := "WeightedForest", name := "expectedReach", desc := "(II)J" } : Jvm.MethodName)) ∈ TB := TB_in 617 (by decide +kernel) (by decide +kernel)
theorem tb_618 : (Jvm.Cond.instanceMethod ({ cls := "WeightedForest", name := "expectedReach", desc := "(II)J" } : Jvm.MethodName)) ∈ TB := TB_in 618 (by decide +kernel) (by decide +kernel)
theorem tb_619 : (Jvm.Cond.selects "WeightedForest" ({ cls := "WeightedForest", name := "expectedReach", desc := "(II)J" } : Jvm.MethodName) ({ cls := "WeightedForest", name := "expectedReach", desc := "(II)J" } : Jvm.MethodName)) ∈ TB := TB_in 619 (by decide +kernel) (by decide +kernel)
theorem tb_620 : (Jvm.Cond.code ({ cls := "WeightedForest", name := "expectedReach", desc := "(II)J" } : Jvm.MethodName) prog_1_method_30_code (3 : Nat) (Option.some Jvm.ClassFile.FieldType.long)) ∈ TB := TB_in 620 (by decide +kernel) (by decide +kernel)
theorem tb_621 : (Jvm.Cond.constantLong "WeightedForest" (192 : Nat) (-1 : Int64)) ∈ TB := TB_in 621 (by decide +kernel) (by decide +kernel)
theorem tb_622 : (Jvm.Cond.constantLong "WeightedForest" (194 : Nat) (-2 : Int64)) ∈ TB := TB_in 622 (by decide +kernel) (by decide +kernel)
theorem tb_623 : (Jvm.Cond.methodLink "WeightedForest" (196 : Nat) ({ cls := "WeightedForest$Survey", name := "reachOf", desc := "(II)J" } : Jvm.MethodName)) ∈ TB := TB_in 623 (by decide +kernel) (by decide +kernel)
theorem tb_624 : (Jvm.Cond.instanceMethod ({ cls := "WeightedForest$Survey", name := "reachOf", desc := "(II)J" } : Jvm.MethodName)) ∈ TB := TB_in 624 (by decide +kernel) (by decide +kernel)
theorem tb_625 : (Jvm.Cond.selects "WeightedForest$Survey" ({ cls := "WeightedForest$Survey", name := "reachOf", desc := "(II)J" } : Jvm.MethodName) ({ cls := "WeightedForest$Survey", name := "reachOf", desc := "(II)J" } : Jvm.MethodName)) ∈ TB := TB_in 625 (by decide +kernel) (by decide +kernel)
theorem tb_626 : (Jvm.Cond.code ({ cls := "WeightedForest$Survey", name := "reachOf", desc := "(II)J" } : Jvm.MethodName) prog_7_method_22_code (6 : Nat) (Option.some Jvm.ClassFile.FieldType.long)) ∈ TB := TB_in 626 (by decide +kernel) (by decide +kernel)
theorem tb_627 : (Jvm.Cond.methodLink "WeightedForest$Survey" (84 : Nat) ({ cls := "WeightedForest$Survey", name := "chanceOfPath", desc := "(III)J" } : Jvm.MethodName)) ∈ TB := TB_in 627 (by decide +kernel) (by decide +kernel)
theorem tb_629 : (Jvm.Cond.instanceMethod ({ cls := "WeightedForest$Survey", name := "chanceOfPath", desc := "(III)J" } : Jvm.MethodName)) ∈ TB := TB_in 629 (by decide +kernel) (by decide +kernel)
theorem tb_630 : (Jvm.Cond.code ({ cls := "WeightedForest$Survey", name := "chanceOfPath", desc := "(III)J" } : Jvm.MethodName) prog_7_method_23_code (8 : Nat) (Option.some Jvm.ClassFile.FieldType.long)) ∈ TB := TB_in 630 (by decide +kernel) (by decide +kernel)
theorem tb_631 : (Jvm.Cond.constantLong "WeightedForest$Survey" (88 : Nat) (100000000000 : Int64)) ∈ TB := TB_in 631 (by decide +kernel) (by decide +kernel)
theorem tb_632 : (Jvm.Cond.constantLong "WeightedForest$Survey" (90 : Nat) (10 : Int64)) ∈ TB := TB_in 632 (by decide +kernel) (by decide +kernel)
theorem tb_633 : (Jvm.Cond.methodLink "WeightedForestLaw" (122 : Nat) ({ cls := "WeightedForest", name := "observe", desc := "(III)I" } : Jvm.MethodName)) ∈ TB := TB_in 633 (by decide +kernel) (by decide +kernel)
theorem tb_634 : (Jvm.Cond.instanceMethod ({ cls := "WeightedForest", name := "observe", desc := "(III)I" } : Jvm.MethodName)) ∈ TB := TB_in 634 (by decide +kernel) (by decide +kernel)
theorem tb_635 : (Jvm.Cond.selects "WeightedForest" ({ cls := "WeightedForest", name := "observe", desc := "(III)I" } : Jvm.MethodName) ({ cls := "WeightedForest", name := "observe", desc := "(III)I" } : Jvm.MethodName)) ∈ TB := TB_in 635 (by decide +kernel) (by decide +kernel)
theorem tb_636 : (Jvm.Cond.code ({ cls := "WeightedForest", name := "observe", desc := "(III)I" } : Jvm.MethodName) prog_1_method_31_code (4 : Nat) (Option.some Jvm.ClassFile.FieldType.int)) ∈ TB := TB_in 636 (by decide +kernel) (by decide +kernel)
theorem tb_637 : (Jvm.Cond.methodLink "WeightedForest" (200 : Nat) ({ cls := "WeightedForest$Observations", name := "store", desc := "(III)I" } : Jvm.MethodName)) ∈ TB := TB_in 637 (by decide +kernel) (by decide +kernel)
theorem tb_638 : (Jvm.Cond.instanceMethod ({ cls := "WeightedForest$Observations", name := "store", desc := "(III)I" } : Jvm.MethodName)) ∈ TB := TB_in 638 (by decide +kernel) (by decide +kernel)
theorem tb_639 : (Jvm.Cond.selects "WeightedForest$Observations" ({ cls := "WeightedForest$Observations", name := "store", desc := "(III)I" } : Jvm.MethodName) ({ cls := "WeightedForest$Observations", name := "store", desc := "(III)I" } : Jvm.MethodName)) ∈ TB := TB_in 639 (by decide +kernel) (by decide +kernel)
theorem tb_640 : (Jvm.Cond.code ({ cls := "WeightedForest$Observations", name := "store", desc := "(III)I" } : Jvm.MethodName) prog_5_method_2_code (4 : Nat) (Option.some Jvm.ClassFile.FieldType.int)) ∈ TB := TB_in 640 (by decide +kernel) (by decide +kernel)
theorem tb_641 : (Jvm.Cond.methodLink "WeightedForest$Observations" (28 : Nat) ({ cls := "java/lang/Math", name := "min", desc := "(II)I" } : Jvm.MethodName)) ∈ TB := TB_in 641 (by decide +kernel) (by decide +kernel)
theorem tb_642 : (Jvm.Cond.methodLink "WeightedForestLaw" (126 : Nat) ({ cls := "WeightedForest", name := "possibleWeights", desc := "(II)I" } : Jvm.MethodName)) ∈ TB := TB_in 642 (by decide +kernel) (by decide +kernel)
theorem tb_643 : (Jvm.Cond.instanceMethod ({ cls := "WeightedForest", name := "possibleWeights", desc := "(II)I" } : Jvm.MethodName)) ∈ TB := TB_in 643 (by decide +kernel) (by decide +kernel)
theorem tb_644 : (Jvm.Cond.selects "WeightedForest" ({ cls := "WeightedForest", name := "possibleWeights", desc := "(II)I" } : Jvm.MethodName) ({ cls := "WeightedForest", name := "possibleWeights", desc := "(II)I" } : Jvm.MethodName)) ∈ TB := TB_in 644 (by decide +kernel) (by decide +kernel)
theorem tb_645 : (Jvm.Cond.code ({ cls := "WeightedForest", name := "possibleWeights", desc := "(II)I" } : Jvm.MethodName) prog_1_method_32_code (3 : Nat) (Option.some Jvm.ClassFile.FieldType.int)) ∈ TB := TB_in 645 (by decide +kernel) (by decide +kernel)
theorem tb_646 : (Jvm.Cond.methodLink "WeightedForest" (203 : Nat) ({ cls := "WeightedForest$Observations", name := "countWeights", desc := "(LWeightedForest$Survey;II)I" } : Jvm.MethodName)) ∈ TB := TB_in 646 (by decide +kernel) (by decide +kernel)
theorem tb_647 : (Jvm.Cond.instanceMethod ({ cls := "WeightedForest$Observations", name := "countWeights", desc := "(LWeightedForest$Survey;II)I" } : Jvm.MethodName)) ∈ TB := TB_in 647 (by decide +kernel) (by decide +kernel)
theorem tb_648 : (Jvm.Cond.selects "WeightedForest$Observations" ({ cls := "WeightedForest$Observations", name := "countWeights", desc := "(LWeightedForest$Survey;II)I" } : Jvm.MethodName) ({ cls := "WeightedForest$Observations", name := "countWeights", desc := "(LWeightedForest$Survey;II)I" } : Jvm.MethodName)) ∈ TB := TB_in 648 (by decide +kernel) (by decide +kernel)
theorem tb_649 : (Jvm.Cond.code ({ cls := "WeightedForest$Observations", name := "countWeights", desc := "(LWeightedForest$Survey;II)I" } : Jvm.MethodName) prog_5_method_3_code (9 : Nat) (Option.some Jvm.ClassFile.FieldType.int)) ∈ TB := TB_in 649 (by decide +kernel) (by decide +kernel)
theorem tb_650 : (Jvm.Cond.methodLink "WeightedForest$Observations" (34 : Nat) ({ cls := "WeightedForest$Survey", name := "between", desc := "(II)I" } : Jvm.MethodName)) ∈ TB := TB_in 650 (by decide +kernel) (by decide +kernel)
theorem tb_651 : (Jvm.Cond.methodLink "WeightedForest$Observations" (39 : Nat) ({ cls := "WeightedForest$Survey", name := "joined", desc := "(II)Z" } : Jvm.MethodName)) ∈ TB := TB_in 651 (by decide +kernel) (by decide +kernel)
theorem tb_652 : (Jvm.Cond.methodLink "WeightedForest$Observations" (43 : Nat) ({ cls := "WeightedForest$Survey", name := "goesOver", desc := "(IIII)Z" } : Jvm.MethodName)) ∈ TB := TB_in 652 (by decide +kernel) (by decide +kernel)
theorem tb_653 : (Jvm.Cond.instanceMethod ({ cls := "WeightedForest$Survey", name := "goesOver", desc := "(IIII)Z" } : Jvm.MethodName)) ∈ TB := TB_in 653 (by decide +kernel) (by decide +kernel)
theorem tb_654 : (Jvm.Cond.selects "WeightedForest$Survey" ({ cls := "WeightedForest$Survey", name := "goesOver", desc := "(IIII)Z" } : Jvm.MethodName) ({ cls := "WeightedForest$Survey", name := "goesOver", desc := "(IIII)Z" } : Jvm.MethodName)) ∈ TB := TB_in 654 (by decide +kernel) (by decide +kernel)
theorem tb_655 : (Jvm.Cond.code ({ cls := "WeightedForest$Survey", name := "goesOver", desc := "(IIII)Z" } : Jvm.MethodName) prog_7_method_19_code (8 : Nat) (Option.some Jvm.ClassFile.FieldType.boolean)) ∈ TB := TB_in 655 (by decide +kernel) (by decide +kernel)
theorem tb_656 : (Jvm.Cond.methodLink "WeightedForest$Observations" (47 : Nat) ({ cls := "WeightedForest$Survey", name := "edgeOf", desc := "(II)I" } : Jvm.MethodName)) ∈ TB := TB_in 656 (by decide +kernel) (by decide +kernel)
theorem tb_657 : (Jvm.Cond.instanceMethod ({ cls := "WeightedForest$Survey", name := "edgeOf", desc := "(II)I" } : Jvm.MethodName)) ∈ TB := TB_in 657 (by decide +kernel) (by decide +kernel)
theorem tb_658 : (Jvm.Cond.selects "WeightedForest$Survey" ({ cls := "WeightedForest$Survey", name := "edgeOf", desc := "(II)I" } : Jvm.MethodName) ({ cls := "WeightedForest$Survey", name := "edgeOf", desc := "(II)I" } : Jvm.MethodName)) ∈ TB := TB_in 658 (by decide +kernel) (by decide +kernel)
theorem tb_659 : (Jvm.Cond.code ({ cls := "WeightedForest$Survey", name := "edgeOf", desc := "(II)I" } : Jvm.MethodName) prog_7_method_6_code (3 : Nat) (Option.some Jvm.ClassFile.FieldType.int)) ∈ TB := TB_in 659 (by decide +kernel) (by decide +kernel)
theorem tb_660 : (Jvm.Cond.methodLink "WeightedForest$Observations" (50 : Nat) ({ cls := "java/lang/Math", name := "max", desc := "(II)I" } : Jvm.MethodName)) ∈ TB := TB_in 660 (by decide +kernel) (by decide +kernel)
theorem tb_661 : (Jvm.Cond.methodLink "WeightedForestLaw" (132 : Nat) ({ cls := "WeightedForest", name := "runScript", desc := "(IJ)I" } : Jvm.MethodName)) ∈ TB := TB_in 661 (by decide +kernel) (by decide +kernel)
theorem tb_662 : (Jvm.Cond.instanceMethod ({ cls := "WeightedForest", name := "runScript", desc := "(IJ)I" } : Jvm.MethodName)) ∈ TB := TB_in 662 (by decide +kernel) (by decide +kernel)
theorem tb_663 : (Jvm.Cond.selects "WeightedForest" ({ cls := "WeightedForest", name := "runScript", desc := "(IJ)I" } : Jvm.MethodName) ({ cls := "WeightedForest", name := "runScript", desc := "(IJ)I" } : Jvm.MethodName)) ∈ TB := TB_in 663 (by decide +kernel) (by decide +kernel)
theorem tb_664 : (Jvm.Cond.code ({ cls := "WeightedForest", name := "runScript", desc := "(IJ)I" } : Jvm.MethodName) prog_1_method_33_code (7 : Nat) (Option.some Jvm.ClassFile.FieldType.int)) ∈ TB := TB_in 664 (by decide +kernel) (by decide +kernel)
theorem tb_665 : (Jvm.Cond.constantLong "WeightedForest" (207 : Nat) (100000 : Int64)) ∈ TB := TB_in 665 (by decide +kernel) (by decide +kernel)
theorem tb_666 : (Jvm.Cond.methodLink "WeightedForest" (209 : Nat) ({ cls := "WeightedForest", name := "obeys", desc := "(I)Z" } : Jvm.MethodName)) ∈ TB := TB_in 666 (by decide +kernel) (by decide +kernel)
theorem tb_668 : (Jvm.Cond.instanceMethod ({ cls := "WeightedForest", name := "obeys", desc := "(I)Z" } : Jvm.MethodName)) ∈ TB := TB_in 668 (by decide +kernel) (by decide +kernel)
theorem tb_669 : (Jvm.Cond.code ({ cls := "WeightedForest", name := "obeys", desc := "(I)Z" } : Jvm.MethodName) prog_1_method_34_code (4 : Nat) (Option.some Jvm.ClassFile.FieldType.boolean)) ∈ TB := TB_in 669 (by decide +kernel) (by decide +kernel)
theorem tb_670 : (Jvm.Cond.methodLink "WeightedForest" (212 : Nat) ({ cls := "WeightedForest", name := "triesLink", desc := "(II)Z" } : Jvm.MethodName)) ∈ TB := TB_in 670 (by decide +kernel) (by decide +kernel)
theorem tb_672 : (Jvm.Cond.instanceMethod ({ cls := "WeightedForest", name := "triesLink", desc := "(II)Z" } : Jvm.MethodName)) ∈ TB := TB_in 672 (by decide +kernel) (by decide +kernel)
theorem tb_673 : (Jvm.Cond.code ({ cls := "WeightedForest", name := "triesLink", desc := "(II)Z" } : Jvm.MethodName) prog_1_method_35_code (3 : Nat) (Option.some Jvm.ClassFile.FieldType.boolean)) ∈ TB := TB_in 673 (by decide +kernel) (by decide +kernel)
theorem tb_674 : (Jvm.Cond.methodLink "WeightedForest" (215 : Nat) ({ cls := "WeightedForest", name := "triesCut", desc := "(II)Z" } : Jvm.MethodName)) ∈ TB := TB_in 674 (by decide +kernel) (by decide +kernel)
theorem tb_676 : (Jvm.Cond.instanceMethod ({ cls := "WeightedForest", name := "triesCut", desc := "(II)Z" } : Jvm.MethodName)) ∈ TB := TB_in 676 (by decide +kernel) (by decide +kernel)
theorem tb_677 : (Jvm.Cond.code ({ cls := "WeightedForest", name := "triesCut", desc := "(II)Z" } : Jvm.MethodName) prog_1_method_36_code (3 : Nat) (Option.some Jvm.ClassFile.FieldType.boolean)) ∈ TB := TB_in 677 (by decide +kernel) (by decide +kernel)
theorem tb_678 : (Jvm.Cond.methodLink "WeightedForest" (218 : Nat) ({ cls := "WeightedForest", name := "joinedInTrial", desc := "(II)Z" } : Jvm.MethodName)) ∈ TB := TB_in 678 (by decide +kernel) (by decide +kernel)
theorem tb_680 : (Jvm.Cond.instanceMethod ({ cls := "WeightedForest", name := "joinedInTrial", desc := "(II)Z" } : Jvm.MethodName)) ∈ TB := TB_in 680 (by decide +kernel) (by decide +kernel)
theorem tb_681 : (Jvm.Cond.code ({ cls := "WeightedForest", name := "joinedInTrial", desc := "(II)Z" } : Jvm.MethodName) prog_1_method_37_code (3 : Nat) (Option.some Jvm.ClassFile.FieldType.boolean)) ∈ TB := TB_in 681 (by decide +kernel) (by decide +kernel)
theorem tb_682 : (Jvm.Cond.methodLink "WeightedForest" (221 : Nat) ({ cls := "WeightedForest", name := "leavesEarlier", desc := "(II)Z" } : Jvm.MethodName)) ∈ TB := TB_in 682 (by decide +kernel) (by decide +kernel)
theorem tb_684 : (Jvm.Cond.instanceMethod ({ cls := "WeightedForest", name := "leavesEarlier", desc := "(II)Z" } : Jvm.MethodName)) ∈ TB := TB_in 684 (by decide +kernel) (by decide +kernel)
theorem tb_685 : (Jvm.Cond.code ({ cls := "WeightedForest", name := "leavesEarlier", desc := "(II)Z" } : Jvm.MethodName) prog_1_method_38_code (5 : Nat) (Option.some Jvm.ClassFile.FieldType.boolean)) ∈ TB := TB_in 685 (by decide +kernel) (by decide +kernel)
theorem tb_686 : (Jvm.Cond.methodLink "WeightedForestLaw" (137 : Nat) ({ cls := "WeightedForest", name := "randomChanges", desc := "(JI)I" } : Jvm.MethodName)) ∈ TB := TB_in 686 (by decide +kernel) (by decide +kernel)
theorem tb_687 : (Jvm.Cond.instanceMethod ({ cls := "WeightedForest", name := "randomChanges", desc := "(JI)I" } : Jvm.MethodName)) ∈ TB := TB_in 687 (by decide +kernel) (by decide +kernel)
theorem tb_688 : (Jvm.Cond.selects "WeightedForest" ({ cls := "WeightedForest", name := "randomChanges", desc := "(JI)I" } : Jvm.MethodName) ({ cls := "WeightedForest", name := "randomChanges", desc := "(JI)I" } : Jvm.MethodName)) ∈ TB := TB_in 688 (by decide +kernel) (by decide +kernel)
theorem tb_689 : (Jvm.Cond.code ({ cls := "WeightedForest", name := "randomChanges", desc := "(JI)I" } : Jvm.MethodName) prog_1_method_39_code (8 : Nat) (Option.some Jvm.ClassFile.FieldType.int)) ∈ TB := TB_in 689 (by decide +kernel) (by decide +kernel)
theorem tb_690 : (Jvm.Cond.constantLong "WeightedForest" (224 : Nat) (6364136223846793005 : Int64)) ∈ TB := TB_in 690 (by decide +kernel) (by decide +kernel)
theorem tb_691 : (Jvm.Cond.constantLong "WeightedForest" (226 : Nat) (1442695040888963407 : Int64)) ∈ TB := TB_in 691 (by decide +kernel) (by decide +kernel)
theorem tb_692 : (Jvm.Cond.methodLink "WeightedForest" (228 : Nat) ({ cls := "WeightedForest", name := "changeTrial", desc := "(I)V" } : Jvm.MethodName)) ∈ TB := TB_in 692 (by decide +kernel) (by decide +kernel)
theorem tb_694 : (Jvm.Cond.instanceMethod ({ cls := "WeightedForest", name := "changeTrial", desc := "(I)V" } : Jvm.MethodName)) ∈ TB := TB_in 694 (by decide +kernel) (by decide +kernel)
theorem tb_695 : (Jvm.Cond.code ({ cls := "WeightedForest", name := "changeTrial", desc := "(I)V" } : Jvm.MethodName) prog_1_method_40_code (6 : Nat) (Option.none : Option Jvm.ClassFile.FieldType)) ∈ TB := TB_in 695 (by decide +kernel) (by decide +kernel)
theorem tb_696 : (Jvm.Cond.methodLink "WeightedForest" (232 : Nat) ({ cls := "WeightedForest$Forest", name := "vertices", desc := "()I" } : Jvm.MethodName)) ∈ TB := TB_in 696 (by decide +kernel) (by decide +kernel)
theorem tb_697 : (Jvm.Cond.methodLink "WeightedForestLaw" (142 : Nat) ({ cls := "WeightedForest", name := "save", desc := "(I)I" } : Jvm.MethodName)) ∈ TB := TB_in 697 (by decide +kernel) (by decide +kernel)
theorem tb_698 : (Jvm.Cond.instanceMethod ({ cls := "WeightedForest", name := "save", desc := "(I)I" } : Jvm.MethodName)) ∈ TB := TB_in 698 (by decide +kernel) (by decide +kernel)
theorem tb_699 : (Jvm.Cond.selects "WeightedForest" ({ cls := "WeightedForest", name := "save", desc := "(I)I" } : Jvm.MethodName) ({ cls := "WeightedForest", name := "save", desc := "(I)I" } : Jvm.MethodName)) ∈ TB := TB_in 699 (by decide +kernel) (by decide +kernel)
theorem tb_700 : (Jvm.Cond.code ({ cls := "WeightedForest", name := "save", desc := "(I)I" } : Jvm.MethodName) prog_1_method_41_code (2 : Nat) (Option.some Jvm.ClassFile.FieldType.int)) ∈ TB := TB_in 700 (by decide +kernel) (by decide +kernel)
theorem tb_701 : (Jvm.Cond.methodLink "WeightedForestLaw" (146 : Nat) ({ cls := "WeightedForest", name := "restore", desc := "(I)I" } : Jvm.MethodName)) ∈ TB := TB_in 701 (by decide +kernel) (by decide +kernel)
theorem tb_702 : (Jvm.Cond.instanceMethod ({ cls := "WeightedForest", name := "restore", desc := "(I)I" } : Jvm.MethodName)) ∈ TB := TB_in 702 (by decide +kernel) (by decide +kernel)
theorem tb_703 : (Jvm.Cond.selects "WeightedForest" ({ cls := "WeightedForest", name := "restore", desc := "(I)I" } : Jvm.MethodName) ({ cls := "WeightedForest", name := "restore", desc := "(I)I" } : Jvm.MethodName)) ∈ TB := TB_in 703 (by decide +kernel) (by decide +kernel)
theorem tb_704 : (Jvm.Cond.code ({ cls := "WeightedForest", name := "restore", desc := "(I)I" } : Jvm.MethodName) prog_1_method_42_code (2 : Nat) (Option.some Jvm.ClassFile.FieldType.int)) ∈ TB := TB_in 704 (by decide +kernel) (by decide +kernel)
theorem tb_705 : (Jvm.Cond.classLink "WeightedForestLaw" (10 : Nat) "WeightedForestModel") ∈ TB := TB_in 705 (by decide +kernel) (by decide +kernel)
theorem tb_706 : (Jvm.Cond.instantiable "WeightedForestModel" (24 : Nat)) ∈ TB := TB_in 706 (by decide +kernel) (by decide +kernel)
theorem tb_707 : (Jvm.Cond.methodLink "WeightedForestLaw" (12 : Nat) ({ cls := "WeightedForestModel", name := "<init>", desc := "()V" } : Jvm.MethodName)) ∈ TB := TB_in 707 (by decide +kernel) (by decide +kernel)
theorem tb_708 : (Jvm.Cond.instanceMethod ({ cls := "WeightedForestModel", name := "<init>", desc := "()V" } : Jvm.MethodName)) ∈ TB := TB_in 708 (by decide +kernel) (by decide +kernel)
theorem tb_709 : (Jvm.Cond.code ({ cls := "WeightedForestModel", name := "<init>", desc := "()V" } : Jvm.MethodName) prog_9_method_1_code (2 : Nat) (Option.none : Option Jvm.ClassFile.FieldType)) ∈ TB := TB_in 709 (by decide +kernel) (by decide +kernel)
theorem tb_710 : (Jvm.Cond.methodLink "WeightedForestModel" (1 : Nat) ({ cls := "java/lang/Object", name := "<init>", desc := "()V" } : Jvm.MethodName)) ∈ TB := TB_in 710 (by decide +kernel) (by decide +kernel)
theorem tb_711 : (Jvm.Cond.fieldLink "WeightedForestModel" (7 : Nat) "WeightedForestModel" "text" "[I") ∈ TB := TB_in 711 (by decide +kernel) (by decide +kernel)
theorem tb_712 : (Jvm.Cond.fieldLink "WeightedForestModel" (85 : Nat) "WeightedForestModel" "length" "I") ∈ TB := TB_in 712 (by decide +kernel) (by decide +kernel)
theorem tb_713 : (Jvm.Cond.fieldLink "WeightedForestModel" (88 : Nat) "WeightedForestModel" "place" "I") ∈ TB := TB_in 713 (by decide +kernel) (by decide +kernel)
theorem tb_714 : (Jvm.Cond.fieldLink "WeightedForestModel" (56 : Nat) "WeightedForestModel" "n" "I") ∈ TB := TB_in 714 (by decide +kernel) (by decide +kernel)
theorem tb_715 : (Jvm.Cond.fieldLink "WeightedForestModel" (95 : Nat) "WeightedForestModel" "readN" "I") ∈ TB := TB_in 715 (by decide +kernel) (by decide +kernel)
theorem tb_716 : (Jvm.Cond.fieldLink "WeightedForestModel" (13 : Nat) "WeightedForestModel" "now" "[I") ∈ TB := TB_in 716 (by decide +kernel) (by decide +kernel)
theorem tb_717 : (Jvm.Cond.fieldLink "WeightedForestModel" (16 : Nat) "WeightedForestModel" "trial" "[I") ∈ TB := TB_in 717 (by decide +kernel) (by decide +kernel)
theorem tb_718 : (Jvm.Cond.fieldLink "WeightedForestModel" (19 : Nat) "WeightedForestModel" "read" "[I") ∈ TB := TB_in 718 (by decide +kernel) (by decide +kernel)
theorem tb_719 : (Jvm.Cond.fieldLink "WeightedForestModel" (22 : Nat) "WeightedForestModel" "diary" "[I") ∈ TB := TB_in 719 (by decide +kernel) (by decide +kernel)
theorem tb_720 : (Jvm.Cond.fieldLink "WeightedForestModel" (121 : Nat) "WeightedForestModel" "acts" "I") ∈ TB := TB_in 720 (by decide +kernel) (by decide +kernel)
theorem tb_721 : (Jvm.Cond.fieldLink "WeightedForestModel" (132 : Nat) "WeightedForestModel" "next" "I") ∈ TB := TB_in 721 (by decide +kernel) (by decide +kernel)
theorem tb_722 : (Jvm.Cond.fieldLink "WeightedForestModel" (25 : Nat) "WeightedForestModel" "kept" "[I") ∈ TB := TB_in 722 (by decide +kernel) (by decide +kernel)
theorem tb_723 : (Jvm.Cond.fieldLink "WeightedForestModel" (28 : Nat) "WeightedForestModel" "isKept" "[Z") ∈ TB := TB_in 723 (by decide +kernel) (by decide +kernel)
theorem tb_724 : (Jvm.Cond.fieldLink "WeightedForestModel" (32 : Nat) "WeightedForestModel" "told" "[I") ∈ TB := TB_in 724 (by decide +kernel) (by decide +kernel)
theorem tb_725 : (Jvm.Cond.fieldLink "WeightedForestModel" (201 : Nat) "WeightedForestModel" "toldMany" "I") ∈ TB := TB_in 725 (by decide +kernel) (by decide +kernel)
theorem tb_726 : (Jvm.Cond.fieldLink "WeightedForestModel" (35 : Nat) "WeightedForestModel" "far" "[I") ∈ TB := TB_in 726 (by decide +kernel) (by decide +kernel)
theorem tb_727 : (Jvm.Cond.fieldLink "WeightedForestModel" (38 : Nat) "WeightedForestModel" "hops" "[I") ∈ TB := TB_in 727 (by decide +kernel) (by decide +kernel)
theorem tb_728 : (Jvm.Cond.fieldLink "WeightedForestModel" (41 : Nat) "WeightedForestModel" "farThere" "[I") ∈ TB := TB_in 728 (by decide +kernel) (by decide +kernel)
theorem tb_729 : (Jvm.Cond.fieldLink "WeightedForestModel" (44 : Nat) "WeightedForestModel" "link" "[I") ∈ TB := TB_in 729 (by decide +kernel) (by decide +kernel)
theorem tb_730 : (Jvm.Cond.fieldLink "WeightedForestModel" (47 : Nat) "WeightedForestModel" "isThere" "[Z") ∈ TB := TB_in 730 (by decide +kernel) (by decide +kernel)
theorem tb_731 : (Jvm.Cond.fieldLink "WeightedForestModel" (50 : Nat) "WeightedForestModel" "goes" "[Z") ∈ TB := TB_in 731 (by decide +kernel) (by decide +kernel)
theorem tb_732 : (Jvm.Cond.fieldLink "WeightedForestModel" (53 : Nat) "WeightedForestModel" "goneIn" "[I") ∈ TB := TB_in 732 (by decide +kernel) (by decide +kernel)
theorem tb_733 : (Jvm.Cond.fieldLink "WeightedForestModel" (182 : Nat) "WeightedForestModel" "survivorIs" "I") ∈ TB := TB_in 733 (by decide +kernel) (by decide +kernel)
theorem tb_734 : (Jvm.Cond.fieldLink "WeightedForestModel" (172 : Nat) "WeightedForestModel" "roundsAre" "I") ∈ TB := TB_in 734 (by decide +kernel) (by decide +kernel)
theorem tb_784 : (Jvm.Cond.methodLink "WeightedForestLaw" (17 : Nat) ({ cls := "WeightedForestModel", name := "append", desc := "(I)I" } : Jvm.MethodName)) ∈ TB := TB_in 784 (by decide +kernel) (by decide +kernel)
theorem tb_785 : (Jvm.Cond.instanceMethod ({ cls := "WeightedForestModel", name := "append", desc := "(I)I" } : Jvm.MethodName)) ∈ TB := TB_in 785 (by decide +kernel) (by decide +kernel)
theorem tb_786 : (Jvm.Cond.selects "WeightedForestModel" ({ cls := "WeightedForestModel", name := "append", desc := "(I)I" } : Jvm.MethodName) ({ cls := "WeightedForestModel", name := "append", desc := "(I)I" } : Jvm.MethodName)) ∈ TB := TB_in 786 (by decide +kernel) (by decide +kernel)
theorem tb_787 : (Jvm.Cond.code ({ cls := "WeightedForestModel", name := "append", desc := "(I)I" } : Jvm.MethodName) prog_9_method_16_code (2 : Nat) (Option.some Jvm.ClassFile.FieldType.int)) ∈ TB := TB_in 787 (by decide +kernel) (by decide +kernel)
theorem tb_788 : (Jvm.Cond.constantLong "WeightedForestModel" (83 : Nat) (255 : Int64)) ∈ TB := TB_in 788 (by decide +kernel) (by decide +kernel)
theorem tb_789 : (Jvm.Cond.methodLink "WeightedForestModel" (60 : Nat) ({ cls := "WeightedForestModel", name := "in", desc := "(JJJ)Z" } : Jvm.MethodName)) ∈ TB := TB_in 789 (by decide +kernel) (by decide +kernel)
theorem tb_790 : (Jvm.Cond.static ({ cls := "WeightedForestModel", name := "in", desc := "(JJJ)Z" } : Jvm.MethodName)) ∈ TB := TB_in 790 (by decide +kernel) (by decide +kernel)
theorem tb_791 : (Jvm.Cond.code ({ cls := "WeightedForestModel", name := "in", desc := "(JJJ)Z" } : Jvm.MethodName) prog_9_method_3_code (6 : Nat) (Option.some Jvm.ClassFile.FieldType.boolean)) ∈ TB := TB_in 791 (by decide +kernel) (by decide +kernel)
theorem tb_792 : (Jvm.Cond.methodLink "WeightedForestLaw" (22 : Nat) ({ cls := "WeightedForestModel", name := "clearText", desc := "()I" } : Jvm.MethodName)) ∈ TB := TB_in 792 (by decide +kernel) (by decide +kernel)
theorem tb_793 : (Jvm.Cond.instanceMethod ({ cls := "WeightedForestModel", name := "clearText", desc := "()I" } : Jvm.MethodName)) ∈ TB := TB_in 793 (by decide +kernel) (by decide +kernel)
theorem tb_794 : (Jvm.Cond.selects "WeightedForestModel" ({ cls := "WeightedForestModel", name := "clearText", desc := "()I" } : Jvm.MethodName) ({ cls := "WeightedForestModel", name := "clearText", desc := "()I" } : Jvm.MethodName)) ∈ TB := TB_in 794 (by decide +kernel) (by decide +kernel)
theorem tb_795 : (Jvm.Cond.code ({ cls := "WeightedForestModel", name := "clearText", desc := "()I" } : Jvm.MethodName) prog_9_method_17_code (2 : Nat) (Option.some Jvm.ClassFile.FieldType.int)) ∈ TB := TB_in 795 (by decide +kernel) (by decide +kernel)
theorem tb_796 : (Jvm.Cond.methodLink "WeightedForestLaw" (26 : Nat) ({ cls := "WeightedForestModel", name := "errorPosition", desc := "()I" } : Jvm.MethodName)) ∈ TB := TB_in 796 (by decide +kernel) (by decide +kernel)
theorem tb_797 : (Jvm.Cond.instanceMethod ({ cls := "WeightedForestModel", name := "errorPosition", desc := "()I" } : Jvm.MethodName)) ∈ TB := TB_in 797 (by decide +kernel) (by decide +kernel)
theorem tb_798 : (Jvm.Cond.selects "WeightedForestModel" ({ cls := "WeightedForestModel", name := "errorPosition", desc := "()I" } : Jvm.MethodName) ({ cls := "WeightedForestModel", name := "errorPosition", desc := "()I" } : Jvm.MethodName)) ∈ TB := TB_in 798 (by decide +kernel) (by decide +kernel)
theorem tb_799 : (Jvm.Cond.code ({ cls := "WeightedForestModel", name := "errorPosition", desc := "()I" } : Jvm.MethodName) prog_9_method_22_code (1 : Nat) (Option.some Jvm.ClassFile.FieldType.int)) ∈ TB := TB_in 799 (by decide +kernel) (by decide +kernel)
theorem tb_800 : (Jvm.Cond.methodLink "WeightedForestModel" (113 : Nat) ({ cls := "WeightedForestModel", name := "readText", desc := "()I" } : Jvm.MethodName)) ∈ TB := TB_in 800 (by decide +kernel) (by decide +kernel)
theorem tb_802 : (Jvm.Cond.instanceMethod ({ cls := "WeightedForestModel", name := "readText", desc := "()I" } : Jvm.MethodName)) ∈ TB := TB_in 802 (by decide +kernel) (by decide +kernel)
theorem tb_803 : (Jvm.Cond.code ({ cls := "WeightedForestModel", name := "readText", desc := "()I" } : Jvm.MethodName) prog_9_method_21_code (2 : Nat) (Option.some Jvm.ClassFile.FieldType.int)) ∈ TB := TB_in 803 (by decide +kernel) (by decide +kernel)
theorem tb_804 : (Jvm.Cond.methodLink "WeightedForestModel" (102 : Nat) ({ cls := "WeightedForestModel", name := "number", desc := "(II)I" } : Jvm.MethodName)) ∈ TB := TB_in 804 (by decide +kernel) (by decide +kernel)
theorem tb_806 : (Jvm.Cond.instanceMethod ({ cls := "WeightedForestModel", name := "number", desc := "(II)I" } : Jvm.MethodName)) ∈ TB := TB_in 806 (by decide +kernel) (by decide +kernel)
theorem tb_807 : (Jvm.Cond.code ({ cls := "WeightedForestModel", name := "number", desc := "(II)I" } : Jvm.MethodName) prog_9_method_19_code (5 : Nat) (Option.some Jvm.ClassFile.FieldType.int)) ∈ TB := TB_in 807 (by decide +kernel) (by decide +kernel)
theorem tb_808 : (Jvm.Cond.methodLink "WeightedForestModel" (91 : Nat) ({ cls := "WeightedForestModel", name := "sign", desc := "(III)I" } : Jvm.MethodName)) ∈ TB := TB_in 808 (by decide +kernel) (by decide +kernel)
theorem tb_810 : (Jvm.Cond.instanceMethod ({ cls := "WeightedForestModel", name := "sign", desc := "(III)I" } : Jvm.MethodName)) ∈ TB := TB_in 810 (by decide +kernel) (by decide +kernel)
theorem tb_811 : (Jvm.Cond.code ({ cls := "WeightedForestModel", name := "sign", desc := "(III)I" } : Jvm.MethodName) prog_9_method_18_code (5 : Nat) (Option.some Jvm.ClassFile.FieldType.int)) ∈ TB := TB_in 811 (by decide +kernel) (by decide +kernel)
theorem tb_812 : (Jvm.Cond.methodLink "WeightedForestModel" (109 : Nat) ({ cls := "WeightedForestModel", name := "readEdge", desc := "()Z" } : Jvm.MethodName)) ∈ TB := TB_in 812 (by decide +kernel) (by decide +kernel)
theorem tb_814 : (Jvm.Cond.instanceMethod ({ cls := "WeightedForestModel", name := "readEdge", desc := "()Z" } : Jvm.MethodName)) ∈ TB := TB_in 814 (by decide +kernel) (by decide +kernel)
theorem tb_815 : (Jvm.Cond.code ({ cls := "WeightedForestModel", name := "readEdge", desc := "()Z" } : Jvm.MethodName) prog_9_method_20_code (4 : Nat) (Option.some Jvm.ClassFile.FieldType.boolean)) ∈ TB := TB_in 815 (by decide +kernel) (by decide +kernel)
theorem tb_816 : (Jvm.Cond.methodLink "WeightedForestModel" (98 : Nat) ({ cls := "WeightedForestModel", name := "isOneTree", desc := "([III)Z" } : Jvm.MethodName)) ∈ TB := TB_in 816 (by decide +kernel) (by decide +kernel)
theorem tb_818 : (Jvm.Cond.instanceMethod ({ cls := "WeightedForestModel", name := "isOneTree", desc := "([III)Z" } : Jvm.MethodName)) ∈ TB := TB_in 818 (by decide +kernel) (by decide +kernel)
theorem tb_819 : (Jvm.Cond.code ({ cls := "WeightedForestModel", name := "isOneTree", desc := "([III)Z" } : Jvm.MethodName) prog_9_method_11_code (4 : Nat) (Option.some Jvm.ClassFile.FieldType.boolean)) ∈ TB := TB_in 819 (by decide +kernel) (by decide +kernel)
theorem tb_820 : (Jvm.Cond.methodLink "WeightedForestModel" (72 : Nat) ({ cls := "WeightedForestModel", name := "farOf", desc := "([III)I" } : Jvm.MethodName)) ∈ TB := TB_in 820 (by decide +kernel) (by decide +kernel)
theorem tb_822 : (Jvm.Cond.instanceMethod ({ cls := "WeightedForestModel", name := "farOf", desc := "([III)I" } : Jvm.MethodName)) ∈ TB := TB_in 822 (by decide +kernel) (by decide +kernel)
theorem tb_823 : (Jvm.Cond.code ({ cls := "WeightedForestModel", name := "farOf", desc := "([III)I" } : Jvm.MethodName) prog_9_method_10_code (4 : Nat) (Option.some Jvm.ClassFile.FieldType.int)) ∈ TB := TB_in 823 (by decide +kernel) (by decide +kernel)
theorem tb_824 : (Jvm.Cond.methodLink "WeightedForestModel" (68 : Nat) ({ cls := "WeightedForestModel", name := "layFar", desc := "([II)V" } : Jvm.MethodName)) ∈ TB := TB_in 824 (by decide +kernel) (by decide +kernel)
theorem tb_826 : (Jvm.Cond.instanceMethod ({ cls := "WeightedForestModel", name := "layFar", desc := "([II)V" } : Jvm.MethodName)) ∈ TB := TB_in 826 (by decide +kernel) (by decide +kernel)
theorem tb_827 : (Jvm.Cond.code ({ cls := "WeightedForestModel", name := "layFar", desc := "([II)V" } : Jvm.MethodName) prog_9_method_9_code (6 : Nat) (Option.none : Option Jvm.ClassFile.FieldType)) ∈ TB := TB_in 827 (by decide +kernel) (by decide +kernel)
theorem tb_828 : (Jvm.Cond.methodLink "WeightedForestModel" (64 : Nat) ({ cls := "WeightedForestModel", name := "at", desc := "(II)I" } : Jvm.MethodName)) ∈ TB := TB_in 828 (by decide +kernel) (by decide +kernel)
theorem tb_829 : (Jvm.Cond.static ({ cls := "WeightedForestModel", name := "at", desc := "(II)I" } : Jvm.MethodName)) ∈ TB := TB_in 829 (by decide +kernel) (by decide +kernel)
theorem tb_830 : (Jvm.Cond.code ({ cls := "WeightedForestModel", name := "at", desc := "(II)I" } : Jvm.MethodName) prog_9_method_5_code (2 : Nat) (Option.some Jvm.ClassFile.FieldType.int)) ∈ TB := TB_in 830 (by decide +kernel) (by decide +kernel)
theorem tb_831 : (Jvm.Cond.methodLink "WeightedForestModel" (105 : Nat) ({ cls := "WeightedForestModel", name := "join", desc := "([IIII)V" } : Jvm.MethodName)) ∈ TB := TB_in 831 (by decide +kernel) (by decide +kernel)
theorem tb_832 : (Jvm.Cond.static ({ cls := "WeightedForestModel", name := "join", desc := "([IIII)V" } : Jvm.MethodName)) ∈ TB := TB_in 832 (by decide +kernel) (by decide +kernel)
theorem tb_833 : (Jvm.Cond.code ({ cls := "WeightedForestModel", name := "join", desc := "([IIII)V" } : Jvm.MethodName) prog_9_method_8_code (4 : Nat) (Option.none : Option Jvm.ClassFile.FieldType)) ∈ TB := TB_in 833 (by decide +kernel) (by decide +kernel)
theorem tb_834 : (Jvm.Cond.methodLink "WeightedForestLaw" (30 : Nat) ({ cls := "WeightedForestModel", name := "load", desc := "()I" } : Jvm.MethodName)) ∈ TB := TB_in 834 (by decide +kernel) (by decide +kernel)
theorem tb_835 : (Jvm.Cond.instanceMethod ({ cls := "WeightedForestModel", name := "load", desc := "()I" } : Jvm.MethodName)) ∈ TB := TB_in 835 (by decide +kernel) (by decide +kernel)
theorem tb_836 : (Jvm.Cond.selects "WeightedForestModel" ({ cls := "WeightedForestModel", name := "load", desc := "()I" } : Jvm.MethodName) ({ cls := "WeightedForestModel", name := "load", desc := "()I" } : Jvm.MethodName)) ∈ TB := TB_in 836 (by decide +kernel) (by decide +kernel)
theorem tb_837 : (Jvm.Cond.code ({ cls := "WeightedForestModel", name := "load", desc := "()I" } : Jvm.MethodName) prog_9_method_23_code (1 : Nat) (Option.some Jvm.ClassFile.FieldType.int)) ∈ TB := TB_in 837 (by decide +kernel) (by decide +kernel)
theorem tb_838 : (Jvm.Cond.methodLink "WeightedForestModel" (117 : Nat) ({ cls := "WeightedForestModel", name := "copy", desc := "([I[I)V" } : Jvm.MethodName)) ∈ TB := TB_in 838 (by decide +kernel) (by decide +kernel)
theorem tb_839 : (Jvm.Cond.static ({ cls := "WeightedForestModel", name := "copy", desc := "([I[I)V" } : Jvm.MethodName)) ∈ TB := TB_in 839 (by decide +kernel) (by decide +kernel)
theorem tb_840 : (Jvm.Cond.code ({ cls := "WeightedForestModel", name := "copy", desc := "([I[I)V" } : Jvm.MethodName) prog_9_method_4_code (3 : Nat) (Option.none : Option Jvm.ClassFile.FieldType)) ∈ TB := TB_in 840 (by decide +kernel) (by decide +kernel)
theorem tb_841 : (Jvm.Cond.methodLink "WeightedForestModel" (124 : Nat) ({ cls := "WeightedForestModel", name := "edgesOf", desc := "([I)I" } : Jvm.MethodName)) ∈ TB := TB_in 841 (by decide +kernel) (by decide +kernel)
theorem tb_842 : (Jvm.Cond.static ({ cls := "WeightedForestModel", name := "edgesOf", desc := "([I)I" } : Jvm.MethodName)) ∈ TB := TB_in 842 (by decide +kernel) (by decide +kernel)
theorem tb_843 : (Jvm.Cond.code ({ cls := "WeightedForestModel", name := "edgesOf", desc := "([I)I" } : Jvm.MethodName) prog_9_method_7_code (3 : Nat) (Option.some Jvm.ClassFile.FieldType.int)) ∈ TB := TB_in 843 (by decide +kernel) (by decide +kernel)
theorem tb_844 : (Jvm.Cond.methodLink "WeightedForestLaw" (34 : Nat) ({ cls := "WeightedForestModel", name := "vertexWeight", desc := "(I)I" } : Jvm.MethodName)) ∈ TB := TB_in 844 (by decide +kernel) (by decide +kernel)
theorem tb_845 : (Jvm.Cond.instanceMethod ({ cls := "WeightedForestModel", name := "vertexWeight", desc := "(I)I" } : Jvm.MethodName)) ∈ TB := TB_in 845 (by decide +kernel) (by decide +kernel)
theorem tb_846 : (Jvm.Cond.selects "WeightedForestModel" ({ cls := "WeightedForestModel", name := "vertexWeight", desc := "(I)I" } : Jvm.MethodName) ({ cls := "WeightedForestModel", name := "vertexWeight", desc := "(I)I" } : Jvm.MethodName)) ∈ TB := TB_in 846 (by decide +kernel) (by decide +kernel)
theorem tb_847 : (Jvm.Cond.code ({ cls := "WeightedForestModel", name := "vertexWeight", desc := "(I)I" } : Jvm.MethodName) prog_9_method_24_code (2 : Nat) (Option.some Jvm.ClassFile.FieldType.int)) ∈ TB := TB_in 847 (by decide +kernel) (by decide +kernel)
theorem tb_848 : (Jvm.Cond.methodLink "WeightedForestModel" (128 : Nat) ({ cls := "WeightedForestModel", name := "isVertex", desc := "(I)Z" } : Jvm.MethodName)) ∈ TB := TB_in 848 (by decide +kernel) (by decide +kernel)
theorem tb_850 : (Jvm.Cond.instanceMethod ({ cls := "WeightedForestModel", name := "isVertex", desc := "(I)Z" } : Jvm.MethodName)) ∈ TB := TB_in 850 (by decide +kernel) (by decide +kernel)
theorem tb_851 : (Jvm.Cond.code ({ cls := "WeightedForestModel", name := "isVertex", desc := "(I)Z" } : Jvm.MethodName) prog_9_method_6_code (2 : Nat) (Option.some Jvm.ClassFile.FieldType.boolean)) ∈ TB := TB_in 851 (by decide +kernel) (by decide +kernel)
theorem tb_852 : (Jvm.Cond.methodLink "WeightedForestLaw" (39 : Nat) ({ cls := "WeightedForestModel", name := "edgeWeight", desc := "(II)I" } : Jvm.MethodName)) ∈ TB := TB_in 852 (by decide +kernel) (by decide +kernel)
theorem tb_853 : (Jvm.Cond.instanceMethod ({ cls := "WeightedForestModel", name := "edgeWeight", desc := "(II)I" } : Jvm.MethodName)) ∈ TB := TB_in 853 (by decide +kernel) (by decide +kernel)
theorem tb_854 : (Jvm.Cond.selects "WeightedForestModel" ({ cls := "WeightedForestModel", name := "edgeWeight", desc := "(II)I" } : Jvm.MethodName) ({ cls := "WeightedForestModel", name := "edgeWeight", desc := "(II)I" } : Jvm.MethodName)) ∈ TB := TB_in 854 (by decide +kernel) (by decide +kernel)
theorem tb_855 : (Jvm.Cond.code ({ cls := "WeightedForestModel", name := "edgeWeight", desc := "(II)I" } : Jvm.MethodName) prog_9_method_25_code (3 : Nat) (Option.some Jvm.ClassFile.FieldType.int)) ∈ TB := TB_in 855 (by decide +kernel) (by decide +kernel)
theorem tb_856 : (Jvm.Cond.methodLink "WeightedForestLaw" (43 : Nat) ({ cls := "WeightedForestModel", name := "treeOf", desc := "(I)I" } : Jvm.MethodName)) ∈ TB := TB_in 856 (by decide +kernel) (by decide +kernel)
theorem tb_857 : (Jvm.Cond.instanceMethod ({ cls := "WeightedForestModel", name := "treeOf", desc := "(I)I" } : Jvm.MethodName)) ∈ TB := TB_in 857 (by decide +kernel) (by decide +kernel)
theorem tb_858 : (Jvm.Cond.selects "WeightedForestModel" ({ cls := "WeightedForestModel", name := "treeOf", desc := "(I)I" } : Jvm.MethodName) ({ cls := "WeightedForestModel", name := "treeOf", desc := "(I)I" } : Jvm.MethodName)) ∈ TB := TB_in 858 (by decide +kernel) (by decide +kernel)
theorem tb_859 : (Jvm.Cond.code ({ cls := "WeightedForestModel", name := "treeOf", desc := "(I)I" } : Jvm.MethodName) prog_9_method_26_code (3 : Nat) (Option.some Jvm.ClassFile.FieldType.int)) ∈ TB := TB_in 859 (by decide +kernel) (by decide +kernel)
theorem tb_860 : (Jvm.Cond.methodLink "WeightedForestLaw" (48 : Nat) ({ cls := "WeightedForestModel", name := "link", desc := "(III)I" } : Jvm.MethodName)) ∈ TB := TB_in 860 (by decide +kernel) (by decide +kernel)
theorem tb_861 : (Jvm.Cond.instanceMethod ({ cls := "WeightedForestModel", name := "link", desc := "(III)I" } : Jvm.MethodName)) ∈ TB := TB_in 861 (by decide +kernel) (by decide +kernel)
theorem tb_862 : (Jvm.Cond.selects "WeightedForestModel" ({ cls := "WeightedForestModel", name := "link", desc := "(III)I" } : Jvm.MethodName) ({ cls := "WeightedForestModel", name := "link", desc := "(III)I" } : Jvm.MethodName)) ∈ TB := TB_in 862 (by decide +kernel) (by decide +kernel)
theorem tb_863 : (Jvm.Cond.code ({ cls := "WeightedForestModel", name := "link", desc := "(III)I" } : Jvm.MethodName) prog_9_method_29_code (5 : Nat) (Option.some Jvm.ClassFile.FieldType.int)) ∈ TB := TB_in 863 (by decide +kernel) (by decide +kernel)
theorem tb_864 : (Jvm.Cond.methodLink "WeightedForestModel" (137 : Nat) ({ cls := "WeightedForestModel", name := "linkError", desc := "([IIII)I" } : Jvm.MethodName)) ∈ TB := TB_in 864 (by decide +kernel) (by decide +kernel)
theorem tb_866 : (Jvm.Cond.instanceMethod ({ cls := "WeightedForestModel", name := "linkError", desc := "([IIII)I" } : Jvm.MethodName)) ∈ TB := TB_in 866 (by decide +kernel) (by decide +kernel)
theorem tb_867 : (Jvm.Cond.code ({ cls := "WeightedForestModel", name := "linkError", desc := "([IIII)I" } : Jvm.MethodName) prog_9_method_28_code (5 : Nat) (Option.some Jvm.ClassFile.FieldType.int)) ∈ TB := TB_in 867 (by decide +kernel) (by decide +kernel)
theorem tb_868 : (Jvm.Cond.constantLong "WeightedForestModel" (135 : Nat) (99 : Int64)) ∈ TB := TB_in 868 (by decide +kernel) (by decide +kernel)
theorem tb_869 : (Jvm.Cond.methodLink "WeightedForestModel" (141 : Nat) ({ cls := "WeightedForestModel", name := "note", desc := "()V" } : Jvm.MethodName)) ∈ TB := TB_in 869 (by decide +kernel) (by decide +kernel)
theorem tb_871 : (Jvm.Cond.instanceMethod ({ cls := "WeightedForestModel", name := "note", desc := "()V" } : Jvm.MethodName)) ∈ TB := TB_in 871 (by decide +kernel) (by decide +kernel)
theorem tb_872 : (Jvm.Cond.code ({ cls := "WeightedForestModel", name := "note", desc := "()V" } : Jvm.MethodName) prog_9_method_27_code (2 : Nat) (Option.none : Option Jvm.ClassFile.FieldType)) ∈ TB := TB_in 872 (by decide +kernel) (by decide +kernel)
theorem tb_873 : (Jvm.Cond.methodLink "WeightedForestLaw" (52 : Nat) ({ cls := "WeightedForestModel", name := "cut", desc := "(II)I" } : Jvm.MethodName)) ∈ TB := TB_in 873 (by decide +kernel) (by decide +kernel)
theorem tb_874 : (Jvm.Cond.instanceMethod ({ cls := "WeightedForestModel", name := "cut", desc := "(II)I" } : Jvm.MethodName)) ∈ TB := TB_in 874 (by decide +kernel) (by decide +kernel)
theorem tb_875 : (Jvm.Cond.selects "WeightedForestModel" ({ cls := "WeightedForestModel", name := "cut", desc := "(II)I" } : Jvm.MethodName) ({ cls := "WeightedForestModel", name := "cut", desc := "(II)I" } : Jvm.MethodName)) ∈ TB := TB_in 875 (by decide +kernel) (by decide +kernel)
theorem tb_876 : (Jvm.Cond.code ({ cls := "WeightedForestModel", name := "cut", desc := "(II)I" } : Jvm.MethodName) prog_9_method_31_code (5 : Nat) (Option.some Jvm.ClassFile.FieldType.int)) ∈ TB := TB_in 876 (by decide +kernel) (by decide +kernel)
theorem tb_877 : (Jvm.Cond.methodLink "WeightedForestModel" (144 : Nat) ({ cls := "WeightedForestModel", name := "edgeError", desc := "([IIII)I" } : Jvm.MethodName)) ∈ TB := TB_in 877 (by decide +kernel) (by decide +kernel)
theorem tb_879 : (Jvm.Cond.instanceMethod ({ cls := "WeightedForestModel", name := "edgeError", desc := "([IIII)I" } : Jvm.MethodName)) ∈ TB := TB_in 879 (by decide +kernel) (by decide +kernel)
theorem tb_880 : (Jvm.Cond.code ({ cls := "WeightedForestModel", name := "edgeError", desc := "([IIII)I" } : Jvm.MethodName) prog_9_method_30_code (5 : Nat) (Option.some Jvm.ClassFile.FieldType.int)) ∈ TB := TB_in 880 (by decide +kernel) (by decide +kernel)
theorem tb_881 : (Jvm.Cond.methodLink "WeightedForestLaw" (56 : Nat) ({ cls := "WeightedForestModel", name := "setEdgeWeight", desc := "(III)I" } : Jvm.MethodName)) ∈ TB := TB_in 881 (by decide +kernel) (by decide +kernel)
theorem tb_882 : (Jvm.Cond.instanceMethod ({ cls := "WeightedForestModel", name := "setEdgeWeight", desc := "(III)I" } : Jvm.MethodName)) ∈ TB := TB_in 882 (by decide +kernel) (by decide +kernel)
theorem tb_883 : (Jvm.Cond.selects "WeightedForestModel" ({ cls := "WeightedForestModel", name := "setEdgeWeight", desc := "(III)I" } : Jvm.MethodName) ({ cls := "WeightedForestModel", name := "setEdgeWeight", desc := "(III)I" } : Jvm.MethodName)) ∈ TB := TB_in 883 (by decide +kernel) (by decide +kernel)
theorem tb_884 : (Jvm.Cond.code ({ cls := "WeightedForestModel", name := "setEdgeWeight", desc := "(III)I" } : Jvm.MethodName) prog_9_method_32_code (6 : Nat) (Option.some Jvm.ClassFile.FieldType.int)) ∈ TB := TB_in 884 (by decide +kernel) (by decide +kernel)
theorem tb_885 : (Jvm.Cond.methodLink "WeightedForestLaw" (60 : Nat) ({ cls := "WeightedForestModel", name := "setVertexWeight", desc := "(II)I" } : Jvm.MethodName)) ∈ TB := TB_in 885 (by decide +kernel) (by decide +kernel)
theorem tb_886 : (Jvm.Cond.instanceMethod ({ cls := "WeightedForestModel", name := "setVertexWeight", desc := "(II)I" } : Jvm.MethodName)) ∈ TB := TB_in 886 (by decide +kernel) (by decide +kernel)
theorem tb_887 : (Jvm.Cond.selects "WeightedForestModel" ({ cls := "WeightedForestModel", name := "setVertexWeight", desc := "(II)I" } : Jvm.MethodName) ({ cls := "WeightedForestModel", name := "setVertexWeight", desc := "(II)I" } : Jvm.MethodName)) ∈ TB := TB_in 887 (by decide +kernel) (by decide +kernel)
theorem tb_888 : (Jvm.Cond.code ({ cls := "WeightedForestModel", name := "setVertexWeight", desc := "(II)I" } : Jvm.MethodName) prog_9_method_33_code (4 : Nat) (Option.some Jvm.ClassFile.FieldType.int)) ∈ TB := TB_in 888 (by decide +kernel) (by decide +kernel)
theorem tb_889 : (Jvm.Cond.methodLink "WeightedForestLaw" (64 : Nat) ({ cls := "WeightedForestModel", name := "undo", desc := "()I" } : Jvm.MethodName)) ∈ TB := TB_in 889 (by decide +kernel) (by decide +kernel)
theorem tb_890 : (Jvm.Cond.instanceMethod ({ cls := "WeightedForestModel", name := "undo", desc := "()I" } : Jvm.MethodName)) ∈ TB := TB_in 890 (by decide +kernel) (by decide +kernel)
theorem tb_891 : (Jvm.Cond.selects "WeightedForestModel" ({ cls := "WeightedForestModel", name := "undo", desc := "()I" } : Jvm.MethodName) ({ cls := "WeightedForestModel", name := "undo", desc := "()I" } : Jvm.MethodName)) ∈ TB := TB_in 891 (by decide +kernel) (by decide +kernel)
theorem tb_892 : (Jvm.Cond.code ({ cls := "WeightedForestModel", name := "undo", desc := "()I" } : Jvm.MethodName) prog_9_method_34_code (2 : Nat) (Option.some Jvm.ClassFile.FieldType.int)) ∈ TB := TB_in 892 (by decide +kernel) (by decide +kernel)
theorem tb_893 : (Jvm.Cond.methodLink "WeightedForestLaw" (68 : Nat) ({ cls := "WeightedForestModel", name := "distance", desc := "(II)I" } : Jvm.MethodName)) ∈ TB := TB_in 893 (by decide +kernel) (by decide +kernel)
theorem tb_894 : (Jvm.Cond.instanceMethod ({ cls := "WeightedForestModel", name := "distance", desc := "(II)I" } : Jvm.MethodName)) ∈ TB := TB_in 894 (by decide +kernel) (by decide +kernel)
theorem tb_895 : (Jvm.Cond.selects "WeightedForestModel" ({ cls := "WeightedForestModel", name := "distance", desc := "(II)I" } : Jvm.MethodName) ({ cls := "WeightedForestModel", name := "distance", desc := "(II)I" } : Jvm.MethodName)) ∈ TB := TB_in 895 (by decide +kernel) (by decide +kernel)
theorem tb_896 : (Jvm.Cond.code ({ cls := "WeightedForestModel", name := "distance", desc := "(II)I" } : Jvm.MethodName) prog_9_method_35_code (3 : Nat) (Option.some Jvm.ClassFile.FieldType.int)) ∈ TB := TB_in 896 (by decide +kernel) (by decide +kernel)
theorem tb_897 : (Jvm.Cond.methodLink "WeightedForestLaw" (72 : Nat) ({ cls := "WeightedForestModel", name := "pathVertex", desc := "(III)I" } : Jvm.MethodName)) ∈ TB := TB_in 897 (by decide +kernel) (by decide +kernel)
theorem tb_898 : (Jvm.Cond.instanceMethod ({ cls := "WeightedForestModel", name := "pathVertex", desc := "(III)I" } : Jvm.MethodName)) ∈ TB := TB_in 898 (by decide +kernel) (by decide +kernel)
theorem tb_899 : (Jvm.Cond.selects "WeightedForestModel" ({ cls := "WeightedForestModel", name := "pathVertex", desc := "(III)I" } : Jvm.MethodName) ({ cls := "WeightedForestModel", name := "pathVertex", desc := "(III)I" } : Jvm.MethodName)) ∈ TB := TB_in 899 (by decide +kernel) (by decide +kernel)
theorem tb_900 : (Jvm.Cond.code ({ cls := "WeightedForestModel", name := "pathVertex", desc := "(III)I" } : Jvm.MethodName) prog_9_method_36_code (8 : Nat) (Option.some Jvm.ClassFile.FieldType.int)) ∈ TB := TB_in 900 (by decide +kernel) (by decide +kernel)
theorem tb_901 : (Jvm.Cond.methodLink "WeightedForestLaw" (76 : Nat) ({ cls := "WeightedForestModel", name := "eccentricity", desc := "(I)I" } : Jvm.MethodName)) ∈ TB := TB_in 901 (by decide +kernel) (by decide +kernel)
theorem tb_902 : (Jvm.Cond.instanceMethod ({ cls := "WeightedForestModel", name := "eccentricity", desc := "(I)I" } : Jvm.MethodName)) ∈ TB := TB_in 902 (by decide +kernel) (by decide +kernel)
theorem tb_903 : (Jvm.Cond.selects "WeightedForestModel" ({ cls := "WeightedForestModel", name := "eccentricity", desc := "(I)I" } : Jvm.MethodName) ({ cls := "WeightedForestModel", name := "eccentricity", desc := "(I)I" } : Jvm.MethodName)) ∈ TB := TB_in 903 (by decide +kernel) (by decide +kernel)
theorem tb_904 : (Jvm.Cond.code ({ cls := "WeightedForestModel", name := "eccentricity", desc := "(I)I" } : Jvm.MethodName) prog_9_method_37_code (2 : Nat) (Option.some Jvm.ClassFile.FieldType.int)) ∈ TB := TB_in 904 (by decide +kernel) (by decide +kernel)
theorem tb_905 : (Jvm.Cond.methodLink "WeightedForestModel" (76 : Nat) ({ cls := "WeightedForestModel", name := "eccentricityOf", desc := "([II)I" } : Jvm.MethodName)) ∈ TB := TB_in 905 (by decide +kernel) (by decide +kernel)
theorem tb_907 : (Jvm.Cond.instanceMethod ({ cls := "WeightedForestModel", name := "eccentricityOf", desc := "([II)I" } : Jvm.MethodName)) ∈ TB := TB_in 907 (by decide +kernel) (by decide +kernel)
theorem tb_908 : (Jvm.Cond.code ({ cls := "WeightedForestModel", name := "eccentricityOf", desc := "([II)I" } : Jvm.MethodName) prog_9_method_12_code (5 : Nat) (Option.some Jvm.ClassFile.FieldType.int)) ∈ TB := TB_in 908 (by decide +kernel) (by decide +kernel)
theorem tb_909 : (Jvm.Cond.methodLink "WeightedForestLaw" (80 : Nat) ({ cls := "WeightedForestModel", name := "diameter", desc := "(I)I" } : Jvm.MethodName)) ∈ TB := TB_in 909 (by decide +kernel) (by decide +kernel)
theorem tb_910 : (Jvm.Cond.instanceMethod ({ cls := "WeightedForestModel", name := "diameter", desc := "(I)I" } : Jvm.MethodName)) ∈ TB := TB_in 910 (by decide +kernel) (by decide +kernel)
theorem tb_911 : (Jvm.Cond.selects "WeightedForestModel" ({ cls := "WeightedForestModel", name := "diameter", desc := "(I)I" } : Jvm.MethodName) ({ cls := "WeightedForestModel", name := "diameter", desc := "(I)I" } : Jvm.MethodName)) ∈ TB := TB_in 911 (by decide +kernel) (by decide +kernel)
theorem tb_912 : (Jvm.Cond.code ({ cls := "WeightedForestModel", name := "diameter", desc := "(I)I" } : Jvm.MethodName) prog_9_method_38_code (2 : Nat) (Option.some Jvm.ClassFile.FieldType.int)) ∈ TB := TB_in 912 (by decide +kernel) (by decide +kernel)
theorem tb_913 : (Jvm.Cond.methodLink "WeightedForestModel" (147 : Nat) ({ cls := "WeightedForestModel", name := "diameterOf", desc := "([II)I" } : Jvm.MethodName)) ∈ TB := TB_in 913 (by decide +kernel) (by decide +kernel)
theorem tb_915 : (Jvm.Cond.instanceMethod ({ cls := "WeightedForestModel", name := "diameterOf", desc := "([II)I" } : Jvm.MethodName)) ∈ TB := TB_in 915 (by decide +kernel) (by decide +kernel)
theorem tb_916 : (Jvm.Cond.code ({ cls := "WeightedForestModel", name := "diameterOf", desc := "([II)I" } : Jvm.MethodName) prog_9_method_13_code (6 : Nat) (Option.some Jvm.ClassFile.FieldType.int)) ∈ TB := TB_in 916 (by decide +kernel) (by decide +kernel)
theorem tb_917 : (Jvm.Cond.methodLink "WeightedForestLaw" (84 : Nat) ({ cls := "WeightedForestModel", name := "diameterEnd", desc := "(II)I" } : Jvm.MethodName)) ∈ TB := TB_in 917 (by decide +kernel) (by decide +kernel)
theorem tb_918 : (Jvm.Cond.instanceMethod ({ cls := "WeightedForestModel", name := "diameterEnd", desc := "(II)I" } : Jvm.MethodName)) ∈ TB := TB_in 918 (by decide +kernel) (by decide +kernel)
theorem tb_919 : (Jvm.Cond.selects "WeightedForestModel" ({ cls := "WeightedForestModel", name := "diameterEnd", desc := "(II)I" } : Jvm.MethodName) ({ cls := "WeightedForestModel", name := "diameterEnd", desc := "(II)I" } : Jvm.MethodName)) ∈ TB := TB_in 919 (by decide +kernel) (by decide +kernel)
theorem tb_920 : (Jvm.Cond.code ({ cls := "WeightedForestModel", name := "diameterEnd", desc := "(II)I" } : Jvm.MethodName) prog_9_method_39_code (6 : Nat) (Option.some Jvm.ClassFile.FieldType.int)) ∈ TB := TB_in 920 (by decide +kernel) (by decide +kernel)
theorem tb_921 : (Jvm.Cond.methodLink "WeightedForestLaw" (88 : Nat) ({ cls := "WeightedForestModel", name := "centre", desc := "(I)I" } : Jvm.MethodName)) ∈ TB := TB_in 921 (by decide +kernel) (by decide +kernel)
theorem tb_922 : (Jvm.Cond.instanceMethod ({ cls := "WeightedForestModel", name := "centre", desc := "(I)I" } : Jvm.MethodName)) ∈ TB := TB_in 922 (by decide +kernel) (by decide +kernel)
theorem tb_923 : (Jvm.Cond.selects "WeightedForestModel" ({ cls := "WeightedForestModel", name := "centre", desc := "(I)I" } : Jvm.MethodName) ({ cls := "WeightedForestModel", name := "centre", desc := "(I)I" } : Jvm.MethodName)) ∈ TB := TB_in 923 (by decide +kernel) (by decide +kernel)
theorem tb_924 : (Jvm.Cond.code ({ cls := "WeightedForestModel", name := "centre", desc := "(I)I" } : Jvm.MethodName) prog_9_method_40_code (2 : Nat) (Option.some Jvm.ClassFile.FieldType.int)) ∈ TB := TB_in 924 (by decide +kernel) (by decide +kernel)
theorem tb_925 : (Jvm.Cond.methodLink "WeightedForestModel" (150 : Nat) ({ cls := "WeightedForestModel", name := "leastOf", desc := "([IIZ)I" } : Jvm.MethodName)) ∈ TB := TB_in 925 (by decide +kernel) (by decide +kernel)
theorem tb_927 : (Jvm.Cond.instanceMethod ({ cls := "WeightedForestModel", name := "leastOf", desc := "([IIZ)I" } : Jvm.MethodName)) ∈ TB := TB_in 927 (by decide +kernel) (by decide +kernel)
theorem tb_928 : (Jvm.Cond.code ({ cls := "WeightedForestModel", name := "leastOf", desc := "([IIZ)I" } : Jvm.MethodName) prog_9_method_15_code (8 : Nat) (Option.some Jvm.ClassFile.FieldType.int)) ∈ TB := TB_in 928 (by decide +kernel) (by decide +kernel)
theorem tb_929 : (Jvm.Cond.methodLink "WeightedForestModel" (80 : Nat) ({ cls := "WeightedForestModel", name := "costOf", desc := "([II)I" } : Jvm.MethodName)) ∈ TB := TB_in 929 (by decide +kernel) (by decide +kernel)
theorem tb_931 : (Jvm.Cond.instanceMethod ({ cls := "WeightedForestModel", name := "costOf", desc := "([II)I" } : Jvm.MethodName)) ∈ TB := TB_in 931 (by decide +kernel) (by decide +kernel)
theorem tb_932 : (Jvm.Cond.code ({ cls := "WeightedForestModel", name := "costOf", desc := "([II)I" } : Jvm.MethodName) prog_9_method_14_code (5 : Nat) (Option.some Jvm.ClassFile.FieldType.int)) ∈ TB := TB_in 932 (by decide +kernel) (by decide +kernel)
theorem tb_933 : (Jvm.Cond.methodLink "WeightedForestLaw" (92 : Nat) ({ cls := "WeightedForestModel", name := "median", desc := "(I)I" } : Jvm.MethodName)) ∈ TB := TB_in 933 (by decide +kernel) (by decide +kernel)
theorem tb_934 : (Jvm.Cond.instanceMethod ({ cls := "WeightedForestModel", name := "median", desc := "(I)I" } : Jvm.MethodName)) ∈ TB := TB_in 934 (by decide +kernel) (by decide +kernel)
theorem tb_935 : (Jvm.Cond.selects "WeightedForestModel" ({ cls := "WeightedForestModel", name := "median", desc := "(I)I" } : Jvm.MethodName) ({ cls := "WeightedForestModel", name := "median", desc := "(I)I" } : Jvm.MethodName)) ∈ TB := TB_in 935 (by decide +kernel) (by decide +kernel)
theorem tb_936 : (Jvm.Cond.code ({ cls := "WeightedForestModel", name := "median", desc := "(I)I" } : Jvm.MethodName) prog_9_method_41_code (2 : Nat) (Option.some Jvm.ClassFile.FieldType.int)) ∈ TB := TB_in 936 (by decide +kernel) (by decide +kernel)
theorem tb_937 : (Jvm.Cond.methodLink "WeightedForestLaw" (96 : Nat) ({ cls := "WeightedForestModel", name := "cost", desc := "(I)I" } : Jvm.MethodName)) ∈ TB := TB_in 937 (by decide +kernel) (by decide +kernel)
theorem tb_938 : (Jvm.Cond.instanceMethod ({ cls := "WeightedForestModel", name := "cost", desc := "(I)I" } : Jvm.MethodName)) ∈ TB := TB_in 938 (by decide +kernel) (by decide +kernel)
theorem tb_939 : (Jvm.Cond.selects "WeightedForestModel" ({ cls := "WeightedForestModel", name := "cost", desc := "(I)I" } : Jvm.MethodName) ({ cls := "WeightedForestModel", name := "cost", desc := "(I)I" } : Jvm.MethodName)) ∈ TB := TB_in 939 (by decide +kernel) (by decide +kernel)
theorem tb_940 : (Jvm.Cond.code ({ cls := "WeightedForestModel", name := "cost", desc := "(I)I" } : Jvm.MethodName) prog_9_method_42_code (2 : Nat) (Option.some Jvm.ClassFile.FieldType.int)) ∈ TB := TB_in 940 (by decide +kernel) (by decide +kernel)
theorem tb_941 : (Jvm.Cond.methodLink "WeightedForestLaw" (100 : Nat) ({ cls := "WeightedForestModel", name := "meeting", desc := "(III)I" } : Jvm.MethodName)) ∈ TB := TB_in 941 (by decide +kernel) (by decide +kernel)
theorem tb_942 : (Jvm.Cond.instanceMethod ({ cls := "WeightedForestModel", name := "meeting", desc := "(III)I" } : Jvm.MethodName)) ∈ TB := TB_in 942 (by decide +kernel) (by decide +kernel)
theorem tb_943 : (Jvm.Cond.selects "WeightedForestModel" ({ cls := "WeightedForestModel", name := "meeting", desc := "(III)I" } : Jvm.MethodName) ({ cls := "WeightedForestModel", name := "meeting", desc := "(III)I" } : Jvm.MethodName)) ∈ TB := TB_in 943 (by decide +kernel) (by decide +kernel)
theorem tb_944 : (Jvm.Cond.code ({ cls := "WeightedForestModel", name := "meeting", desc := "(III)I" } : Jvm.MethodName) prog_9_method_44_code (5 : Nat) (Option.some Jvm.ClassFile.FieldType.int)) ∈ TB := TB_in 944 (by decide +kernel) (by decide +kernel)
theorem tb_945 : (Jvm.Cond.methodLink "WeightedForestModel" (154 : Nat) ({ cls := "WeightedForestModel", name := "liesBetween", desc := "(III)Z" } : Jvm.MethodName)) ∈ TB := TB_in 945 (by decide +kernel) (by decide +kernel)
theorem tb_947 : (Jvm.Cond.instanceMethod ({ cls := "WeightedForestModel", name := "liesBetween", desc := "(III)Z" } : Jvm.MethodName)) ∈ TB := TB_in 947 (by decide +kernel) (by decide +kernel)
theorem tb_948 : (Jvm.Cond.code ({ cls := "WeightedForestModel", name := "liesBetween", desc := "(III)Z" } : Jvm.MethodName) prog_9_method_43_code (5 : Nat) (Option.some Jvm.ClassFile.FieldType.boolean)) ∈ TB := TB_in 948 (by decide +kernel) (by decide +kernel)
theorem tb_949 : (Jvm.Cond.methodLink "WeightedForestLaw" (104 : Nat) ({ cls := "WeightedForestModel", name := "rounds", desc := "(I)I" } : Jvm.MethodName)) ∈ TB := TB_in 949 (by decide +kernel) (by decide +kernel)
theorem tb_950 : (Jvm.Cond.instanceMethod ({ cls := "WeightedForestModel", name := "rounds", desc := "(I)I" } : Jvm.MethodName)) ∈ TB := TB_in 950 (by decide +kernel) (by decide +kernel)
theorem tb_951 : (Jvm.Cond.selects "WeightedForestModel" ({ cls := "WeightedForestModel", name := "rounds", desc := "(I)I" } : Jvm.MethodName) ({ cls := "WeightedForestModel", name := "rounds", desc := "(I)I" } : Jvm.MethodName)) ∈ TB := TB_in 951 (by decide +kernel) (by decide +kernel)
theorem tb_952 : (Jvm.Cond.code ({ cls := "WeightedForestModel", name := "rounds", desc := "(I)I" } : Jvm.MethodName) prog_9_method_52_code (2 : Nat) (Option.some Jvm.ClassFile.FieldType.int)) ∈ TB := TB_in 952 (by decide +kernel) (by decide +kernel)
theorem tb_953 : (Jvm.Cond.methodLink "WeightedForestModel" (185 : Nat) ({ cls := "WeightedForestModel", name := "contract", desc := "([II)V" } : Jvm.MethodName)) ∈ TB := TB_in 953 (by decide +kernel) (by decide +kernel)
theorem tb_955 : (Jvm.Cond.instanceMethod ({ cls := "WeightedForestModel", name := "contract", desc := "([II)V" } : Jvm.MethodName)) ∈ TB := TB_in 955 (by decide +kernel) (by decide +kernel)
theorem tb_956 : (Jvm.Cond.code ({ cls := "WeightedForestModel", name := "contract", desc := "([II)V" } : Jvm.MethodName) prog_9_method_51_code (5 : Nat) (Option.none : Option Jvm.ClassFile.FieldType)) ∈ TB := TB_in 956 (by decide +kernel) (by decide +kernel)
theorem tb_957 : (Jvm.Cond.methodLink "WeightedForestModel" (158 : Nat) ({ cls := "WeightedForestModel", name := "many", desc := "()I" } : Jvm.MethodName)) ∈ TB := TB_in 957 (by decide +kernel) (by decide +kernel)
theorem tb_959 : (Jvm.Cond.instanceMethod ({ cls := "WeightedForestModel", name := "many", desc := "()I" } : Jvm.MethodName)) ∈ TB := TB_in 959 (by decide +kernel) (by decide +kernel)
theorem tb_960 : (Jvm.Cond.code ({ cls := "WeightedForestModel", name := "many", desc := "()I" } : Jvm.MethodName) prog_9_method_48_code (3 : Nat) (Option.some Jvm.ClassFile.FieldType.int)) ∈ TB := TB_in 960 (by decide +kernel) (by decide +kernel)
theorem tb_961 : (Jvm.Cond.methodLink "WeightedForestModel" (175 : Nat) ({ cls := "WeightedForestModel", name := "rake", desc := "(I)V" } : Jvm.MethodName)) ∈ TB := TB_in 961 (by decide +kernel) (by decide +kernel)
theorem tb_963 : (Jvm.Cond.instanceMethod ({ cls := "WeightedForestModel", name := "rake", desc := "(I)V" } : Jvm.MethodName)) ∈ TB := TB_in 963 (by decide +kernel) (by decide +kernel)
theorem tb_964 : (Jvm.Cond.code ({ cls := "WeightedForestModel", name := "rake", desc := "(I)V" } : Jvm.MethodName) prog_9_method_49_code (5 : Nat) (Option.none : Option Jvm.ClassFile.FieldType)) ∈ TB := TB_in 964 (by decide +kernel) (by decide +kernel)
theorem tb_965 : (Jvm.Cond.methodLink "WeightedForestModel" (161 : Nat) ({ cls := "WeightedForestModel", name := "degreeOf", desc := "(I)I" } : Jvm.MethodName)) ∈ TB := TB_in 965 (by decide +kernel) (by decide +kernel)
theorem tb_967 : (Jvm.Cond.instanceMethod ({ cls := "WeightedForestModel", name := "degreeOf", desc := "(I)I" } : Jvm.MethodName)) ∈ TB := TB_in 967 (by decide +kernel) (by decide +kernel)
theorem tb_968 : (Jvm.Cond.code ({ cls := "WeightedForestModel", name := "degreeOf", desc := "(I)I" } : Jvm.MethodName) prog_9_method_45_code (4 : Nat) (Option.some Jvm.ClassFile.FieldType.int)) ∈ TB := TB_in 968 (by decide +kernel) (by decide +kernel)
theorem tb_969 : (Jvm.Cond.methodLink "WeightedForestModel" (165 : Nat) ({ cls := "WeightedForestModel", name := "removeVertex", desc := "(II)V" } : Jvm.MethodName)) ∈ TB := TB_in 969 (by decide +kernel) (by decide +kernel)
theorem tb_971 : (Jvm.Cond.instanceMethod ({ cls := "WeightedForestModel", name := "removeVertex", desc := "(II)V" } : Jvm.MethodName)) ∈ TB := TB_in 971 (by decide +kernel) (by decide +kernel)
theorem tb_972 : (Jvm.Cond.code ({ cls := "WeightedForestModel", name := "removeVertex", desc := "(II)V" } : Jvm.MethodName) prog_9_method_46_code (4 : Nat) (Option.none : Option Jvm.ClassFile.FieldType)) ∈ TB := TB_in 972 (by decide +kernel) (by decide +kernel)
theorem tb_973 : (Jvm.Cond.methodLink "WeightedForestModel" (179 : Nat) ({ cls := "WeightedForestModel", name := "compress", desc := "(I)V" } : Jvm.MethodName)) ∈ TB := TB_in 973 (by decide +kernel) (by decide +kernel)
theorem tb_975 : (Jvm.Cond.instanceMethod ({ cls := "WeightedForestModel", name := "compress", desc := "(I)V" } : Jvm.MethodName)) ∈ TB := TB_in 975 (by decide +kernel) (by decide +kernel)
theorem tb_976 : (Jvm.Cond.code ({ cls := "WeightedForestModel", name := "compress", desc := "(I)V" } : Jvm.MethodName) prog_9_method_50_code (5 : Nat) (Option.none : Option Jvm.ClassFile.FieldType)) ∈ TB := TB_in 976 (by decide +kernel) (by decide +kernel)
theorem tb_977 : (Jvm.Cond.methodLink "WeightedForestModel" (169 : Nat) ({ cls := "WeightedForestModel", name := "neighbour", desc := "(II)I" } : Jvm.MethodName)) ∈ TB := TB_in 977 (by decide +kernel) (by decide +kernel)
theorem tb_979 : (Jvm.Cond.instanceMethod ({ cls := "WeightedForestModel", name := "neighbour", desc := "(II)I" } : Jvm.MethodName)) ∈ TB := TB_in 979 (by decide +kernel) (by decide +kernel)
theorem tb_980 : (Jvm.Cond.code ({ cls := "WeightedForestModel", name := "neighbour", desc := "(II)I" } : Jvm.MethodName) prog_9_method_47_code (4 : Nat) (Option.some Jvm.ClassFile.FieldType.int)) ∈ TB := TB_in 980 (by decide +kernel) (by decide +kernel)
theorem tb_981 : (Jvm.Cond.methodLink "WeightedForestLaw" (108 : Nat) ({ cls := "WeightedForestModel", name := "removalRound", desc := "(I)I" } : Jvm.MethodName)) ∈ TB := TB_in 981 (by decide +kernel) (by decide +kernel)
theorem tb_982 : (Jvm.Cond.instanceMethod ({ cls := "WeightedForestModel", name := "removalRound", desc := "(I)I" } : Jvm.MethodName)) ∈ TB := TB_in 982 (by decide +kernel) (by decide +kernel)
theorem tb_983 : (Jvm.Cond.selects "WeightedForestModel" ({ cls := "WeightedForestModel", name := "removalRound", desc := "(I)I" } : Jvm.MethodName) ({ cls := "WeightedForestModel", name := "removalRound", desc := "(I)I" } : Jvm.MethodName)) ∈ TB := TB_in 983 (by decide +kernel) (by decide +kernel)
theorem tb_984 : (Jvm.Cond.code ({ cls := "WeightedForestModel", name := "removalRound", desc := "(I)I" } : Jvm.MethodName) prog_9_method_53_code (2 : Nat) (Option.some Jvm.ClassFile.FieldType.int)) ∈ TB := TB_in 984 (by decide +kernel) (by decide +kernel)
theorem tb_985 : (Jvm.Cond.methodLink "WeightedForestLaw" (112 : Nat) ({ cls := "WeightedForestModel", name := "survivor", desc := "(I)I" } : Jvm.MethodName)) ∈ TB := TB_in 985 (by decide +kernel) (by decide +kernel)
theorem tb_986 : (Jvm.Cond.instanceMethod ({ cls := "WeightedForestModel", name := "survivor", desc := "(I)I" } : Jvm.MethodName)) ∈ TB := TB_in 986 (by decide +kernel) (by decide +kernel)
theorem tb_987 : (Jvm.Cond.selects "WeightedForestModel" ({ cls := "WeightedForestModel", name := "survivor", desc := "(I)I" } : Jvm.MethodName) ({ cls := "WeightedForestModel", name := "survivor", desc := "(I)I" } : Jvm.MethodName)) ∈ TB := TB_in 987 (by decide +kernel) (by decide +kernel)
theorem tb_988 : (Jvm.Cond.code ({ cls := "WeightedForestModel", name := "survivor", desc := "(I)I" } : Jvm.MethodName) prog_9_method_54_code (2 : Nat) (Option.some Jvm.ClassFile.FieldType.int)) ∈ TB := TB_in 988 (by decide +kernel) (by decide +kernel)
theorem tb_989 : (Jvm.Cond.methodLink "WeightedForestLaw" (116 : Nat) ({ cls := "WeightedForestModel", name := "balancedCut", desc := "(I)I" } : Jvm.MethodName)) ∈ TB := TB_in 989 (by decide +kernel) (by decide +kernel)
theorem tb_990 : (Jvm.Cond.instanceMethod ({ cls := "WeightedForestModel", name := "balancedCut", desc := "(I)I" } : Jvm.MethodName)) ∈ TB := TB_in 990 (by decide +kernel) (by decide +kernel)
theorem tb_991 : (Jvm.Cond.selects "WeightedForestModel" ({ cls := "WeightedForestModel", name := "balancedCut", desc := "(I)I" } : Jvm.MethodName) ({ cls := "WeightedForestModel", name := "balancedCut", desc := "(I)I" } : Jvm.MethodName)) ∈ TB := TB_in 991 (by decide +kernel) (by decide +kernel)
theorem tb_992 : (Jvm.Cond.code ({ cls := "WeightedForestModel", name := "balancedCut", desc := "(I)I" } : Jvm.MethodName) prog_9_method_56_code (9 : Nat) (Option.some Jvm.ClassFile.FieldType.int)) ∈ TB := TB_in 992 (by decide +kernel) (by decide +kernel)
theorem tb_993 : (Jvm.Cond.methodLink "WeightedForestModel" (188 : Nat) ({ cls := "WeightedForestModel", name := "weightWith", desc := "([II)I" } : Jvm.MethodName)) ∈ TB := TB_in 993 (by decide +kernel) (by decide +kernel)
theorem tb_995 : (Jvm.Cond.instanceMethod ({ cls := "WeightedForestModel", name := "weightWith", desc := "([II)I" } : Jvm.MethodName)) ∈ TB := TB_in 995 (by decide +kernel) (by decide +kernel)
theorem tb_996 : (Jvm.Cond.code ({ cls := "WeightedForestModel", name := "weightWith", desc := "([II)I" } : Jvm.MethodName) prog_9_method_55_code (5 : Nat) (Option.some Jvm.ClassFile.FieldType.int)) ∈ TB := TB_in 996 (by decide +kernel) (by decide +kernel)
theorem tb_997 : (Jvm.Cond.methodLink "WeightedForestLaw" (121 : Nat) ({ cls := "WeightedForestModel", name := "expectedReach", desc := "(II)J" } : Jvm.MethodName)) ∈ TB := TB_in 997 (by decide +kernel) (by decide +kernel)
theorem tb_998 : (Jvm.Cond.instanceMethod ({ cls := "WeightedForestModel", name := "expectedReach", desc := "(II)J" } : Jvm.MethodName)) ∈ TB := TB_in 998 (by decide +kernel) (by decide +kernel)
theorem tb_999 : (Jvm.Cond.selects "WeightedForestModel" ({ cls := "WeightedForestModel", name := "expectedReach", desc := "(II)J" } : Jvm.MethodName) ({ cls := "WeightedForestModel", name := "expectedReach", desc := "(II)J" } : Jvm.MethodName)) ∈ TB := TB_in 999 (by decide +kernel) (by decide +kernel)
theorem tb_1000 : (Jvm.Cond.code ({ cls := "WeightedForestModel", name := "expectedReach", desc := "(II)J" } : Jvm.MethodName) prog_9_method_57_code (9 : Nat) (Option.some Jvm.ClassFile.FieldType.long)) ∈ TB := TB_in 1000 (by decide +kernel) (by decide +kernel)
theorem tb_1001 : (Jvm.Cond.constantLong "WeightedForestModel" (191 : Nat) (-1 : Int64)) ∈ TB := TB_in 1001 (by decide +kernel) (by decide +kernel)
theorem tb_1002 : (Jvm.Cond.constantLong "WeightedForestModel" (193 : Nat) (10 : Int64)) ∈ TB := TB_in 1002 (by decide +kernel) (by decide +kernel)
theorem tb_1003 : (Jvm.Cond.constantLong "WeightedForestModel" (195 : Nat) (-2 : Int64)) ∈ TB := TB_in 1003 (by decide +kernel) (by decide +kernel)
theorem tb_1004 : (Jvm.Cond.methodLink "WeightedForestLaw" (125 : Nat) ({ cls := "WeightedForestModel", name := "observe", desc := "(III)I" } : Jvm.MethodName)) ∈ TB := TB_in 1004 (by decide +kernel) (by decide +kernel)
theorem tb_1005 : (Jvm.Cond.instanceMethod ({ cls := "WeightedForestModel", name := "observe", desc := "(III)I" } : Jvm.MethodName)) ∈ TB := TB_in 1005 (by decide +kernel) (by decide +kernel)
theorem tb_1006 : (Jvm.Cond.selects "WeightedForestModel" ({ cls := "WeightedForestModel", name := "observe", desc := "(III)I" } : Jvm.MethodName) ({ cls := "WeightedForestModel", name := "observe", desc := "(III)I" } : Jvm.MethodName)) ∈ TB := TB_in 1006 (by decide +kernel) (by decide +kernel)
theorem tb_1007 : (Jvm.Cond.code ({ cls := "WeightedForestModel", name := "observe", desc := "(III)I" } : Jvm.MethodName) prog_9_method_58_code (5 : Nat) (Option.some Jvm.ClassFile.FieldType.int)) ∈ TB := TB_in 1007 (by decide +kernel) (by decide +kernel)
theorem tb_1008 : (Jvm.Cond.constantLong "WeightedForestModel" (197 : Nat) (11 : Int64)) ∈ TB := TB_in 1008 (by decide +kernel) (by decide +kernel)
theorem tb_1009 : (Jvm.Cond.constantLong "WeightedForestModel" (199 : Nat) (999 : Int64)) ∈ TB := TB_in 1009 (by decide +kernel) (by decide +kernel)
theorem tb_1010 : (Jvm.Cond.methodLink "WeightedForestLaw" (129 : Nat) ({ cls := "WeightedForestModel", name := "possibleWeights", desc := "(II)I" } : Jvm.MethodName)) ∈ TB := TB_in 1010 (by decide +kernel) (by decide +kernel)
theorem tb_1011 : (Jvm.Cond.instanceMethod ({ cls := "WeightedForestModel", name := "possibleWeights", desc := "(II)I" } : Jvm.MethodName)) ∈ TB := TB_in 1011 (by decide +kernel) (by decide +kernel)
theorem tb_1012 : (Jvm.Cond.selects "WeightedForestModel" ({ cls := "WeightedForestModel", name := "possibleWeights", desc := "(II)I" } : Jvm.MethodName) ({ cls := "WeightedForestModel", name := "possibleWeights", desc := "(II)I" } : Jvm.MethodName)) ∈ TB := TB_in 1012 (by decide +kernel) (by decide +kernel)
theorem tb_1013 : (Jvm.Cond.code ({ cls := "WeightedForestModel", name := "possibleWeights", desc := "(II)I" } : Jvm.MethodName) prog_9_method_60_code (6 : Nat) (Option.some Jvm.ClassFile.FieldType.int)) ∈ TB := TB_in 1013 (by decide +kernel) (by decide +kernel)
theorem tb_1014 : (Jvm.Cond.methodLink "WeightedForestModel" (204 : Nat) ({ cls := "WeightedForestModel", name := "agrees", desc := "([I)Z" } : Jvm.MethodName)) ∈ TB := TB_in 1014 (by decide +kernel) (by decide +kernel)
theorem tb_1016 : (Jvm.Cond.instanceMethod ({ cls := "WeightedForestModel", name := "agrees", desc := "([I)Z" } : Jvm.MethodName)) ∈ TB := TB_in 1016 (by decide +kernel) (by decide +kernel)
theorem tb_1017 : (Jvm.Cond.code ({ cls := "WeightedForestModel", name := "agrees", desc := "([I)Z" } : Jvm.MethodName) prog_9_method_59_code (6 : Nat) (Option.some Jvm.ClassFile.FieldType.boolean)) ∈ TB := TB_in 1017 (by decide +kernel) (by decide +kernel)
theorem tb_1018 : (Jvm.Cond.methodLink "WeightedForestLaw" (136 : Nat) ({ cls := "WeightedForestModel", name := "runScript", desc := "(IJ)I" } : Jvm.MethodName)) ∈ TB := TB_in 1018 (by decide +kernel) (by decide +kernel)
theorem tb_1019 : (Jvm.Cond.instanceMethod ({ cls := "WeightedForestModel", name := "runScript", desc := "(IJ)I" } : Jvm.MethodName)) ∈ TB := TB_in 1019 (by decide +kernel) (by decide +kernel)
theorem tb_1020 : (Jvm.Cond.selects "WeightedForestModel" ({ cls := "WeightedForestModel", name := "runScript", desc := "(IJ)I" } : Jvm.MethodName) ({ cls := "WeightedForestModel", name := "runScript", desc := "(IJ)I" } : Jvm.MethodName)) ∈ TB := TB_in 1020 (by decide +kernel) (by decide +kernel)
theorem tb_1021 : (Jvm.Cond.code ({ cls := "WeightedForestModel", name := "runScript", desc := "(IJ)I" } : Jvm.MethodName) prog_9_method_63_code (6 : Nat) (Option.some Jvm.ClassFile.FieldType.int)) ∈ TB := TB_in 1021 (by decide +kernel) (by decide +kernel)
theorem tb_1022 : (Jvm.Cond.constantLong "WeightedForestModel" (210 : Nat) (3 : Int64)) ∈ TB := TB_in 1022 (by decide +kernel) (by decide +kernel)
theorem tb_1023 : (Jvm.Cond.methodLink "WeightedForestModel" (212 : Nat) ({ cls := "WeightedForestModel", name := "hundredThousands", desc := "(I)J" } : Jvm.MethodName)) ∈ TB := TB_in 1023 (by decide +kernel) (by decide +kernel)
theorem tb_1024 : (Jvm.Cond.static ({ cls := "WeightedForestModel", name := "hundredThousands", desc := "(I)J" } : Jvm.MethodName)) ∈ TB := TB_in 1024 (by decide +kernel) (by decide +kernel)
theorem tb_1025 : (Jvm.Cond.code ({ cls := "WeightedForestModel", name := "hundredThousands", desc := "(I)J" } : Jvm.MethodName) prog_9_method_62_code (4 : Nat) (Option.some Jvm.ClassFile.FieldType.long)) ∈ TB := TB_in 1025 (by decide +kernel) (by decide +kernel)
theorem tb_1026 : (Jvm.Cond.constantLong "WeightedForestModel" (208 : Nat) (100000 : Int64)) ∈ TB := TB_in 1026 (by decide +kernel) (by decide +kernel)
theorem tb_1027 : (Jvm.Cond.methodLink "WeightedForestModel" (216 : Nat) ({ cls := "WeightedForestModel", name := "command", desc := "(III)Z" } : Jvm.MethodName)) ∈ TB := TB_in 1027 (by decide +kernel) (by decide +kernel)
theorem tb_1029 : (Jvm.Cond.instanceMethod ({ cls := "WeightedForestModel", name := "command", desc := "(III)Z" } : Jvm.MethodName)) ∈ TB := TB_in 1029 (by decide +kernel) (by decide +kernel)
theorem tb_1030 : (Jvm.Cond.code ({ cls := "WeightedForestModel", name := "command", desc := "(III)Z" } : Jvm.MethodName) prog_9_method_61_code (5 : Nat) (Option.some Jvm.ClassFile.FieldType.boolean)) ∈ TB := TB_in 1030 (by decide +kernel) (by decide +kernel)
theorem tb_1031 : (Jvm.Cond.methodLink "WeightedForestLaw" (141 : Nat) ({ cls := "WeightedForestModel", name := "randomChanges", desc := "(JI)I" } : Jvm.MethodName)) ∈ TB := TB_in 1031 (by decide +kernel) (by decide +kernel)
theorem tb_1032 : (Jvm.Cond.instanceMethod ({ cls := "WeightedForestModel", name := "randomChanges", desc := "(JI)I" } : Jvm.MethodName)) ∈ TB := TB_in 1032 (by decide +kernel) (by decide +kernel)
theorem tb_1033 : (Jvm.Cond.selects "WeightedForestModel" ({ cls := "WeightedForestModel", name := "randomChanges", desc := "(JI)I" } : Jvm.MethodName) ({ cls := "WeightedForestModel", name := "randomChanges", desc := "(JI)I" } : Jvm.MethodName)) ∈ TB := TB_in 1033 (by decide +kernel) (by decide +kernel)
theorem tb_1034 : (Jvm.Cond.code ({ cls := "WeightedForestModel", name := "randomChanges", desc := "(JI)I" } : Jvm.MethodName) prog_9_method_64_code (12 : Nat) (Option.some Jvm.ClassFile.FieldType.int)) ∈ TB := TB_in 1034 (by decide +kernel) (by decide +kernel)
theorem tb_1035 : (Jvm.Cond.constantLong "WeightedForestModel" (219 : Nat) (60 : Int64)) ∈ TB := TB_in 1035 (by decide +kernel) (by decide +kernel)
theorem tb_1036 : (Jvm.Cond.constantLong "WeightedForestModel" (221 : Nat) (6364136223846793005 : Int64)) ∈ TB := TB_in 1036 (by decide +kernel) (by decide +kernel)
theorem tb_1037 : (Jvm.Cond.constantLong "WeightedForestModel" (223 : Nat) (1442695040888963407 : Int64)) ∈ TB := TB_in 1037 (by decide +kernel) (by decide +kernel)
theorem tb_1038 : (Jvm.Cond.methodLink "WeightedForestLaw" (145 : Nat) ({ cls := "WeightedForestModel", name := "save", desc := "(I)I" } : Jvm.MethodName)) ∈ TB := TB_in 1038 (by decide +kernel) (by decide +kernel)
theorem tb_1039 : (Jvm.Cond.instanceMethod ({ cls := "WeightedForestModel", name := "save", desc := "(I)I" } : Jvm.MethodName)) ∈ TB := TB_in 1039 (by decide +kernel) (by decide +kernel)
theorem tb_1040 : (Jvm.Cond.selects "WeightedForestModel" ({ cls := "WeightedForestModel", name := "save", desc := "(I)I" } : Jvm.MethodName) ({ cls := "WeightedForestModel", name := "save", desc := "(I)I" } : Jvm.MethodName)) ∈ TB := TB_in 1040 (by decide +kernel) (by decide +kernel)
theorem tb_1041 : (Jvm.Cond.code ({ cls := "WeightedForestModel", name := "save", desc := "(I)I" } : Jvm.MethodName) prog_9_method_65_code (3 : Nat) (Option.some Jvm.ClassFile.FieldType.int)) ∈ TB := TB_in 1041 (by decide +kernel) (by decide +kernel)
theorem tb_1042 : (Jvm.Cond.methodLink "WeightedForestLaw" (149 : Nat) ({ cls := "WeightedForestModel", name := "restore", desc := "(I)I" } : Jvm.MethodName)) ∈ TB := TB_in 1042 (by decide +kernel) (by decide +kernel)
theorem tb_1043 : (Jvm.Cond.instanceMethod ({ cls := "WeightedForestModel", name := "restore", desc := "(I)I" } : Jvm.MethodName)) ∈ TB := TB_in 1043 (by decide +kernel) (by decide +kernel)
theorem tb_1044 : (Jvm.Cond.selects "WeightedForestModel" ({ cls := "WeightedForestModel", name := "restore", desc := "(I)I" } : Jvm.MethodName) ({ cls := "WeightedForestModel", name := "restore", desc := "(I)I" } : Jvm.MethodName)) ∈ TB := TB_in 1044 (by decide +kernel) (by decide +kernel)
theorem tb_1045 : (Jvm.Cond.code ({ cls := "WeightedForestModel", name := "restore", desc := "(I)I" } : Jvm.MethodName) prog_9_method_66_code (3 : Nat) (Option.some Jvm.ClassFile.FieldType.int)) ∈ TB := TB_in 1045 (by decide +kernel) (by decide +kernel)
theorem tb_1046 : (Jvm.Cond.constantLong "WeightedForestLaw" (130 : Nat) (4294967295 : Int64)) ∈ TB := TB_in 1046 (by decide +kernel) (by decide +kernel)
theorem inX0 : ∀ w ∈ u_ws RX0 TX0 7, w ∈ TB := by decide +kernel
theorem inX1 : ∀ w ∈ u_ws RX1 TX1 3, w ∈ TB := by decide +kernel
theorem inX2 : ∀ w ∈ u_ws RX2 TX2 3, w ∈ TB := by decide +kernel
theorem inX3 : ∀ w ∈ u_ws RX3 TX3 5, w ∈ TB := by decide +kernel
theorem inX4 : ∀ w ∈ u_ws RX4 TX4 4, w ∈ TB := by decide +kernel
theorem inX5 : ∀ w ∈ u_ws RX5 TX5 3, w ∈ TB := by decide +kernel
theorem inX6 : ∀ w ∈ u_ws RX6 TX6 10, w ∈ TB := by decide +kernel
theorem inX7 : ∀ w ∈ u_ws RX7 TX7 24, w ∈ TB := by decide +kernel
end
section
/-! the cells' facts -/
def Mn (G : Gx) : Prop := gK G = 343 ∧ ∀ j, gO G j = none
def isF (f : Nat) : Bool := f == 1 || (f == 30 || (f == 296 || (f == 311 || (decide (81 ≤ f) && (decide (f < 291) && ((f - 81) % 15 == 0))))))
def Fo (G : Gx) (f : Nat) : Prop := isF f = true ∧ f + 14 < gK G ∧ ∀ i, i < 15 → gO G (f + i) = none
def Sv (G : Gx) (s : Nat) : Prop := (s = 16 ∨ s = 45) ∧ Mn G
def Ra (G : Gx) (r : Nat) : Prop := (r = 329 ∨ r = 330 ∨ r = 331) ∧ Mn G
def Ia (G : Gx) (a n : Nat) : Prop := a < gK G ∧ ∀ r, cellR G a r = rI (gC G) n r
theorem vp_lt {i : Int32} {n : Nat} (h : vp_in i n) : i.toNatClampNeg < n := Nat.not_le.mp fun q => h (Or.inr q)
theorem isF_iff {f : Nat} (hf : isF f = true) : f = 1 ∨ f = 30 ∨ f = 296 ∨ f = 311 ∨ (81 ≤ f ∧ f < 291 ∧ (f - 81) % 15 = 0) := by
  unfold isF at hf
  simpa using hf
theorem cellAt_F {cs : ClassId × ClassId × ClassId × ClassId} {ad : Nat → Nat} {f i : Nat} {r : Nat → Int32} (hf : isF f = true) (hi : i < 15) : cellAt cs ad (f + i) r = cF cs ad f i r := by
  unfold cellAt
  rcases isF_iff hf with rfl | rfl | rfl | rfl | ⟨h1, h2, h3⟩
  · rw [if_neg (by omega), if_pos (by omega), show 1 + i - 1 = i by omega]
  · rw [if_neg (by omega), if_neg (by omega), if_neg (by omega), if_pos (by omega), show 30 + i - 30 = i by omega]
  · rw [if_neg (by omega), if_neg (by omega), if_neg (by omega), if_neg (by omega), if_neg (by omega), if_neg (by omega), if_neg (by omega), if_neg (by omega), if_neg (by omega), if_pos (by omega), show 296 + 15 * ((296 + i - 296) / 15) = 296 by omega, show (296 + i - 296) % 15 = i by omega]
  · rw [if_neg (by omega), if_neg (by omega), if_neg (by omega), if_neg (by omega), if_neg (by omega), if_neg (by omega), if_neg (by omega), if_neg (by omega), if_neg (by omega), if_pos (by omega), show 296 + 15 * ((311 + i - 296) / 15) = 311 by omega, show (311 + i - 296) % 15 = i by omega]
  · rw [if_neg (by omega), if_neg (by omega), if_neg (by omega), if_neg (by omega), if_neg (by omega), if_neg (by omega), if_neg (by omega), if_pos (by omega), show 81 + 15 * ((f + i - 81) / 15) = f by omega, show (f + i - 81) % 15 = i by omega]
theorem Fo_K {G : Gx} {f i : Nat} (h : Fo G f) (hi : i < 15) : f + i < gK G := by have := h.2.1; omega
theorem Fo_c {G : Gx} {f i : Nat} (h : Fo G f) (hi : i < 15) (r : Nat → Int32) : cellR G (f + i) r = cF (gC G) (gA G) f i r := by
  unfold cellR
  rw [h.2.2 i hi]
  exact cellAt_F h.1 hi
theorem Fo_K0 {G : Gx} {f : Nat} (h : Fo G f) : f < gK G := Fo_K (i := 0) h (by decide)
theorem Fo_c0 {G : Gx} {f : Nat} (h : Fo G f) (r : Nat → Int32) : cellR G f r = .inr (1, [.int (r 0), .ref (gA G (f + 1)), .ref (gA G (f + 2))]) := Fo_c (i := 0) h (by decide) r
theorem Fo_c1 {G : Gx} {f : Nat} (h : Fo G f) (r : Nat → Int32) : cellR G (f + 1) r = rI (gC G) 12 r := Fo_c (i := 1) h (by decide) r
theorem Fo_c2 {G : Gx} {f : Nat} (h : Fo G f) (r : Nat → Int32) : cellR G (f + 2) r = rR (gC G) 12 (fun k => if k < 12 then some (gA G (f + 3 + k)) else none) := Fo_c (i := 2) h (by decide) r
theorem Fo_K3 {G : Gx} {f k : Nat} (h : Fo G f) (hk : k < 12) : f + 3 + k < gK G := by have := h.2.1; omega
theorem Fo_c3 {G : Gx} {f k : Nat} (h : Fo G f) (hk : k < 12) (r : Nat → Int32) : cellR G (f + 3 + k) r = rI (gC G) 12 r := by
  rw [show f + 3 + k = f + (3 + k) by omega, Fo_c h (by omega)]
  unfold cF
  rw [if_neg (by omega), if_neg (by omega)]
theorem Fo_of {G : Gx} {f : Nat} (h : Mn G) (hf : isF f = true) : Fo G f := ⟨hf, by rw [h.1]; rcases isF_iff hf with rfl | rfl | rfl | rfl | ⟨h1, h2, h3⟩ <;> omega, fun i _ => h.2 _⟩
theorem Fo_hist {G : Gx} {k : Nat} (h : Mn G) (hk : k < 14) : Fo G (81 + 15 * k) := Fo_of h (by unfold isF; simp only [Bool.or_eq_true, Bool.and_eq_true, decide_eq_true_eq, beq_iff_eq]; omega)
theorem Fo_slot {G : Gx} {k : Nat} (h : Mn G) (hk : k < 2) : Fo G (296 + 15 * k) := Fo_of h (by unfold isF; simp only [Bool.or_eq_true, Bool.and_eq_true, decide_eq_true_eq, beq_iff_eq]; omega)
theorem mK {G : Gx} {j : Nat} (h : Mn G) (hj : j < 343) : j < gK G := by rw [h.1]; exact hj
theorem mC {G : Gx} (h : Mn G) (j : Nat) (r : Nat → Int32) : cellR G j r = cellAt (gC G) (gA G) j r := by
  unfold cellR
  rw [h.2 j]
theorem Sv_K {G : Gx} {s i : Nat} (h : Sv G s) (hi : i < 14) : s + i < gK G := mK h.2 (by rcases h.1 with rfl | rfl <;> omega)
theorem Sv_c {G : Gx} {s i : Nat} (h : Sv G s) (hi : i < 14) (r : Nat → Int32) : cellR G (s + i) r = cS (gC G) (gA G) (s - 15) s i r := by
  rw [mC h.2]
  unfold cellAt
  rcases h.1 with rfl | rfl
  · rw [if_neg (by omega), if_neg (by omega), if_pos (by omega), show 16 + i - 16 = i by omega]
  · rw [if_neg (by omega), if_neg (by omega), if_neg (by omega), if_neg (by omega), if_pos (by omega), show 45 + i - 45 = i by omega]
theorem Sv_K0 {G : Gx} {s : Nat} (h : Sv G s) : s < gK G := Sv_K (i := 0) h (by decide)
theorem Sv_c0 {G : Gx} {s : Nat} (h : Sv G s) (r : Nat → Int32) : cellR G s r = .inr (5, [.ref (gA G (s - 15)), .int (r 1), .ref (gA G (s + 1))]) := Sv_c (i := 0) h (by decide) r
theorem Sv_c1 {G : Gx} {s : Nat} (h : Sv G s) (r : Nat → Int32) : cellR G (s + 1) r = rR (gC G) 12 (fun k => if k < 12 then some (gA G (s + 2 + k)) else none) := Sv_c (i := 1) h (by decide) r
theorem Sv_K3 {G : Gx} {s k : Nat} (h : Sv G s) (hk : k < 12) : s + 2 + k < gK G := by rw [Nat.add_assoc]; exact Sv_K h (by omega)
theorem Sv_c3 {G : Gx} {s k : Nat} (h : Sv G s) (hk : k < 12) (r : Nat → Int32) : cellR G (s + 2 + k) r = rI (gC G) 12 r := by
  rw [show s + 2 + k = s + (2 + k) by omega, Sv_c h (by omega)]
  unfold cS
  rw [if_neg (by omega), if_neg (by omega)]
theorem Sv_Fo {G : Gx} {s : Nat} (h : Sv G s) : Fo G (s - 15) := Fo_of h.2 (by rcases h.1 with rfl | rfl <;> decide)
theorem Ra_K {G : Gx} {r : Nat} (h : Ra G r) : r < gK G := mK h.2 (by rcases h.1 with rfl | rfl | rfl <;> decide)
theorem Ra_c {G : Gx} {r : Nat} (h : Ra G r) (q : Nat → Int32) : cellR G r q = rI (gC G) 156 q := by
  rw [mC h.2]
  rcases h.1 with rfl | rfl | rfl <;> rfl
theorem Ra_Ia {G : Gx} {r : Nat} (h : Ra G r) : Ia G r 156 := ⟨Ra_K h, Ra_c h⟩
theorem ro_K {G : Gx} {k : Nat} (h : Mn G) (hk : k < 12) : 64 + k < gK G := mK h (by omega)
theorem ro_c {G : Gx} {k : Nat} (h : Mn G) (hk : k < 12) (r : Nat → Int32) : cellR G (64 + k) r = rI (gC G) 12 r := by
  rw [mC h]
  unfold cellAt cC
  rw [if_neg (by omega), if_neg (by omega), if_neg (by omega), if_neg (by omega), if_neg (by omega), if_pos (by omega), if_neg (by omega), if_neg (by omega), if_neg (by omega), if_neg (by omega)]
theorem mc_0 {G : Gx} (h : Mn G) (r : Nat → Int32) : cellR G 0 r = .inr (6, [.ref (gA G 1), .ref (gA G 16), .ref (gA G 30), .ref (gA G 45), .ref (gA G 59), .ref (gA G 76), .ref (gA G 79), .ref (gA G 291), .ref (gA G 295), .ref (gA G 326)]) := (mC h 0 r).trans rfl
theorem mc_59 {G : Gx} (h : Mn G) (r : Nat → Int32) : cellR G 59 r = .inr (0, [.int (r 0), .int (r 1), .int (r 2), .ref (gA G 60), .ref (gA G 61), .ref (gA G 62), .ref (gA G 63)]) := (mC h 59 r).trans rfl
theorem mc_60 {G : Gx} (h : Mn G) (r : Nat → Int32) : cellR G 60 r = rZ (gC G) 12 r := (mC h 60 r).trans rfl
theorem mc_61 {G : Gx} (h : Mn G) (r : Nat → Int32) : cellR G 61 r = rZ (gC G) 12 r := (mC h 61 r).trans rfl
theorem mc_62 {G : Gx} (h : Mn G) (r : Nat → Int32) : cellR G 62 r = rI (gC G) 12 r := (mC h 62 r).trans rfl
theorem mc_63 {G : Gx} (h : Mn G) (r : Nat → Int32) : cellR G 63 r = rR (gC G) 12 (fun k => if k < 12 then some (gA G (64 + k)) else none) := (mC h 63 r).trans rfl
theorem mc_76 {G : Gx} (h : Mn G) (r : Nat → Int32) : cellR G 76 r = .inr (4, [.int (r 0), .ref (gA G 77), .int (r 2), .ref (gA G 78)]) := (mC h 76 r).trans rfl
theorem mc_77 {G : Gx} (h : Mn G) (r : Nat → Int32) : cellR G 77 r = rI (gC G) 80 r := (mC h 77 r).trans rfl
theorem mc_78 {G : Gx} (h : Mn G) (r : Nat → Int32) : cellR G 78 r = rI (gC G) 12 r := (mC h 78 r).trans rfl
theorem mc_79 {G : Gx} (h : Mn G) (r : Nat → Int32) : cellR G 79 r = .inr (2, [.ref (gA G 80), .int (r 1), .int (r 2)]) := (mC h 79 r).trans rfl
theorem mc_80 {G : Gx} (h : Mn G) (r : Nat → Int32) : cellR G 80 r = rF (gC G) 14 (fun k => if k < 14 then some (gA G (81 + 15 * k)) else none) := (mC h 80 r).trans rfl
theorem mc_291 {G : Gx} (h : Mn G) (r : Nat → Int32) : cellR G 291 r = .inr (3, [.ref (gA G 292), .ref (gA G 293), .ref (gA G 294), .int (r 3), .int (r 4)]) := (mC h 291 r).trans rfl
theorem mc_292 {G : Gx} (h : Mn G) (r : Nat → Int32) : cellR G 292 r = rI (gC G) 6 r := (mC h 292 r).trans rfl
theorem mc_293 {G : Gx} (h : Mn G) (r : Nat → Int32) : cellR G 293 r = rI (gC G) 6 r := (mC h 293 r).trans rfl
theorem mc_294 {G : Gx} (h : Mn G) (r : Nat → Int32) : cellR G 294 r = rI (gC G) 6 r := (mC h 294 r).trans rfl
theorem mc_295 {G : Gx} (h : Mn G) (r : Nat → Int32) : cellR G 295 r = rF (gC G) 2 (fun k => if k < 2 then some (gA G (296 + 15 * k)) else none) := (mC h 295 r).trans rfl
theorem mc_326 {G : Gx} (h : Mn G) (r : Nat → Int32) : cellR G 326 r = rZ (gC G) 2 r := (mC h 326 r).trans rfl
theorem mc_327 {G : Gx} (h : Mn G) (r : Nat → Int32) : cellR G 327 r = .inr (7, [.ref (gA G 328), .int (r 1), .int (r 2), .int (r 3), .int (r 4), .ref (gA G 329), .ref (gA G 330), .ref (gA G 331), .ref (gA G 332), .int (r 9), .int (r 10), .ref (gA G 333), .ref (gA G 334), .ref (gA G 335), .int (r 14), .ref (gA G 336), .ref (gA G 337), .ref (gA G 338), .ref (gA G 339), .ref (gA G 340), .ref (gA G 341), .ref (gA G 342), .int (r 22), .int (r 23)]) := (mC h 327 r).trans rfl
theorem mc_328 {G : Gx} (h : Mn G) (r : Nat → Int32) : cellR G 328 r = rI (gC G) 80 r := (mC h 328 r).trans rfl
theorem mc_329 {G : Gx} (h : Mn G) (r : Nat → Int32) : cellR G 329 r = rI (gC G) 156 r := (mC h 329 r).trans rfl
theorem mc_330 {G : Gx} (h : Mn G) (r : Nat → Int32) : cellR G 330 r = rI (gC G) 156 r := (mC h 330 r).trans rfl
theorem mc_331 {G : Gx} (h : Mn G) (r : Nat → Int32) : cellR G 331 r = rI (gC G) 156 r := (mC h 331 r).trans rfl
theorem mc_332 {G : Gx} (h : Mn G) (r : Nat → Int32) : cellR G 332 r = rI (gC G) 2184 r := (mC h 332 r).trans rfl
theorem mc_333 {G : Gx} (h : Mn G) (r : Nat → Int32) : cellR G 333 r = rI (gC G) 312 r := (mC h 333 r).trans rfl
theorem mc_334 {G : Gx} (h : Mn G) (r : Nat → Int32) : cellR G 334 r = rZ (gC G) 2 r := (mC h 334 r).trans rfl
theorem mc_335 {G : Gx} (h : Mn G) (r : Nat → Int32) : cellR G 335 r = rI (gC G) 18 r := (mC h 335 r).trans rfl
theorem mc_336 {G : Gx} (h : Mn G) (r : Nat → Int32) : cellR G 336 r = rI (gC G) 12 r := (mC h 336 r).trans rfl
theorem mc_337 {G : Gx} (h : Mn G) (r : Nat → Int32) : cellR G 337 r = rI (gC G) 12 r := (mC h 337 r).trans rfl
theorem mc_338 {G : Gx} (h : Mn G) (r : Nat → Int32) : cellR G 338 r = rI (gC G) 12 r := (mC h 338 r).trans rfl
theorem mc_339 {G : Gx} (h : Mn G) (r : Nat → Int32) : cellR G 339 r = rI (gC G) 144 r := (mC h 339 r).trans rfl
theorem mc_340 {G : Gx} (h : Mn G) (r : Nat → Int32) : cellR G 340 r = rZ (gC G) 12 r := (mC h 340 r).trans rfl
theorem mc_341 {G : Gx} (h : Mn G) (r : Nat → Int32) : cellR G 341 r = rZ (gC G) 12 r := (mC h 341 r).trans rfl
theorem mc_342 {G : Gx} (h : Mn G) (r : Nat → Int32) : cellR G 342 r = rI (gC G) 12 r := (mC h 342 r).trans rfl
/-! the methods: name, code, locals, answer, room; what the tables say of each -/
abbrev M_J7_fill_53178 : MTy := (yJ7_fill_53178, cJ7_fill_53178, 4, none, { frames := 0, cells := 0, slots := 0, locals := 0 })
theorem ok_J7_fill_53178 : OkS M_J7_fill_53178 2 := ⟨tb_95, tb_60, tb_96, by decide, by decide, by decide +kernel⟩
abbrev M_J9_max_7cf53 : MTy := (yJ9_max_7cf53, cJ9_max_7cf53, 2, (some .int), { frames := 0, cells := 0, slots := 0, locals := 0 })
abbrev M_J9_min_7cf53 : MTy := (yJ9_min_7cf53, cJ9_min_7cf53, 2, (some .int), { frames := 0, cells := 0, slots := 0, locals := 0 })
abbrev M_X0_bypass : MTy := (yX0_bypass, cX0_bypass, 4, none, { frames := 1, cells := 0, slots := 0, locals := 23 })
theorem ok_X0_bypass : OkV M_X0_bypass RX0 1 := ⟨tb_578, tb_20, tb_62, tb_579, rfl, by decide, by decide, by decide +kernel⟩
abbrev M_X0_compress : MTy := (yX0_compress, cX0_compress, 2, none, { frames := 2, cells := 0, slots := 0, locals := 46 })
theorem ok_X0_compress : OkV M_X0_compress RX0 0 := ⟨tb_569, tb_18, tb_62, tb_570, rfl, by decide, by decide, by decide +kernel⟩
abbrev M_X0_contract : MTy := (yX0_contract, cX0_contract, 3, none, { frames := 3, cells := 0, slots := 0, locals := 67 })
theorem ok_X0_contract : OkV M_X0_contract RX0 2 := ⟨tb_530, tb_531, tb_62, tb_532, rfl, by decide, by decide, by decide +kernel⟩
abbrev M_X0_copyEdges : MTy := (yX0_copyEdges, cX0_copyEdges, 4, none, { frames := 2, cells := 0, slots := 0, locals := 44 })
theorem ok_X0_copyEdges : OkV M_X0_copyEdges RX0 1 := ⟨tb_535, tb_10, tb_62, tb_536, rfl, by decide, by decide, by decide +kernel⟩
abbrev M_X0_degreeOf : MTy := (yX0_degreeOf, cX0_degreeOf, 4, (some .int), { frames := 0, cells := 0, slots := 0, locals := 0 })
theorem ok_X0_degreeOf : OkV M_X0_degreeOf RX0 1 := ⟨tb_565, tb_17, tb_62, tb_566, rfl, by decide, by decide, by decide +kernel⟩
abbrev M_X0_gatherNeighbours : MTy := (yX0_gatherNeighbours, cX0_gatherNeighbours, 3, none, { frames := 0, cells := 0, slots := 0, locals := 0 })
theorem ok_X0_gatherNeighbours : OkV M_X0_gatherNeighbours RX0 0 := ⟨tb_549, tb_13, tb_62, tb_550, rfl, by decide, by decide, by decide +kernel⟩
abbrev M_X0_gatherTree : MTy := (yX0_gatherTree, cX0_gatherTree, 3, none, { frames := 1, cells := 0, slots := 0, locals := 22 })
theorem ok_X0_gatherTree : OkV M_X0_gatherTree RX0 1 := ⟨tb_541, tb_11, tb_62, tb_542, rfl, by decide, by decide, by decide +kernel⟩
abbrev M_X0_init : MTy := (yX0_init, cX0_init, 1, none, { frames := 1, cells := 16, slots := 192, locals := 20 })
theorem ok_X0_init : OkI M_X0_init 0 := ⟨tb_128, tb_62, tb_129, rfl, rfl, by decide, by decide, by decide +kernel⟩
abbrev M_X0_isVertex : MTy := (yX0_isVertex, cX0_isVertex, 2, (some .boolean), { frames := 0, cells := 0, slots := 0, locals := 0 })
theorem ok_X0_isVertex : OkV M_X0_isVertex RX0 1 := ⟨tb_545, tb_12, tb_62, tb_546, rfl, by decide, by decide, by decide +kernel⟩
abbrev M_X0_lastVertex : MTy := (yX0_lastVertex, cX0_lastVertex, 2, (some .int), { frames := 0, cells := 0, slots := 0, locals := 0 })
theorem ok_X0_lastVertex : OkV M_X0_lastVertex RX0 0 := ⟨tb_601, tb_602, tb_62, tb_603, rfl, by decide, by decide, by decide +kernel⟩
abbrev M_X0_makeEdgesOld : MTy := (yX0_makeEdgesOld, cX0_makeEdgesOld, 3, none, { frames := 1, cells := 0, slots := 0, locals := 21 })
theorem ok_X0_makeEdgesOld : OkV M_X0_makeEdgesOld RX0 0 := ⟨tb_573, tb_19, tb_62, tb_574, rfl, by decide, by decide, by decide +kernel⟩
abbrev M_X0_neighbourAfter : MTy := (yX0_neighbourAfter, cX0_neighbourAfter, 4, (some .int), { frames := 0, cells := 0, slots := 0, locals := 0 })
theorem ok_X0_neighbourAfter : OkV M_X0_neighbourAfter RX0 2 := ⟨tb_582, tb_21, tb_62, tb_583, rfl, by decide, by decide, by decide +kernel⟩
abbrev M_X0_rake : MTy := (yX0_rake, cX0_rake, 2, none, { frames := 2, cells := 0, slots := 0, locals := 43 })
theorem ok_X0_rake : OkV M_X0_rake RX0 0 := ⟨tb_553, tb_14, tb_62, tb_554, rfl, by decide, by decide, by decide +kernel⟩
abbrev M_X0_remove : MTy := (yX0_remove, cX0_remove, 3, none, { frames := 0, cells := 0, slots := 0, locals := 0 })
theorem ok_X0_remove : OkV M_X0_remove RX0 1 := ⟨tb_561, tb_16, tb_62, tb_562, rfl, by decide, by decide, by decide +kernel⟩
abbrev M_X0_removeGreatest : MTy := (yX0_removeGreatest, cX0_removeGreatest, 2, none, { frames := 1, cells := 0, slots := 0, locals := 22 })
theorem ok_X0_removeGreatest : OkV M_X0_removeGreatest RX0 0 := ⟨tb_557, tb_15, tb_62, tb_558, rfl, by decide, by decide, by decide +kernel⟩
abbrev M_X0_roundCount : MTy := (yX0_roundCount, cX0_roundCount, 1, (some .int), { frames := 0, cells := 0, slots := 0, locals := 0 })
theorem ok_X0_roundCount : OkV M_X0_roundCount RX0 0 := ⟨tb_585, tb_586, tb_62, tb_587, rfl, by decide, by decide, by decide +kernel⟩
abbrev M_X0_roundOf : MTy := (yX0_roundOf, cX0_roundOf, 2, (some .int), { frames := 1, cells := 0, slots := 0, locals := 21 })
theorem ok_X0_roundOf : OkV M_X0_roundOf RX0 1 := ⟨tb_593, tb_594, tb_62, tb_595, rfl, by decide, by decide, by decide +kernel⟩
abbrev M_X1_become : MTy := (yX1_become, cX1_become, 3, none, { frames := 1, cells := 0, slots := 0, locals := 26 })
theorem ok_X1_become : OkV M_X1_become RX1 1 := ⟨tb_324, tb_325, tb_58, tb_326, rfl, by decide, by decide, by decide +kernel⟩
abbrev M_X1_edgeBetween : MTy := (yX1_edgeBetween, cX1_edgeBetween, 3, (some .int), { frames := 1, cells := 0, slots := 0, locals := 22 })
theorem ok_X1_edgeBetween : OkV M_X1_edgeBetween RX1 2 := ⟨tb_347, tb_348, tb_58, tb_349, rfl, by decide, by decide, by decide +kernel⟩
abbrev M_X1_edgeCount : MTy := (yX1_edgeCount, cX1_edgeCount, 4, (some .int), { frames := 3, cells := 0, slots := 0, locals := 66 })
theorem ok_X1_edgeCount : OkV M_X1_edgeCount RX1 0 := ⟨tb_339, tb_340, tb_58, tb_341, rfl, by decide, by decide, by decide +kernel⟩
abbrev M_X1_hasEdge : MTy := (yX1_hasEdge, cX1_hasEdge, 3, (some .boolean), { frames := 2, cells := 0, slots := 0, locals := 44 })
theorem ok_X1_hasEdge : OkV M_X1_hasEdge RX1 2 := ⟨tb_343, tb_344, tb_58, tb_345, rfl, by decide, by decide, by decide +kernel⟩
abbrev M_X1_hasVertex : MTy := (yX1_hasVertex, cX1_hasVertex, 2, (some .boolean), { frames := 0, cells := 0, slots := 0, locals := 0 })
theorem ok_X1_hasVertex : OkV M_X1_hasVertex RX1 1 := ⟨tb_296, tb_297, tb_58, tb_298, rfl, by decide, by decide, by decide +kernel⟩
abbrev M_X1_hasVertices : MTy := (yX1_hasVertices, cX1_hasVertices, 3, (some .boolean), { frames := 0, cells := 0, slots := 0, locals := 0 })
theorem ok_X1_hasVertices : OkV M_X1_hasVertices RX1 2 := ⟨tb_312, tb_313, tb_58, tb_314, rfl, by decide, by decide, by decide +kernel⟩
abbrev M_X1_init : MTy := (yX1_init, cX1_init, 1, none, { frames := 2, cells := 14, slots := 168, locals := 45 })
theorem ok_X1_init : OkI M_X1_init 0 := ⟨tb_79, tb_58, tb_80, rfl, rfl, by decide, by decide, by decide +kernel⟩
abbrev M_X1_putEdge : MTy := (yX1_putEdge, cX1_putEdge, 4, none, { frames := 1, cells := 0, slots := 0, locals := 22 })
theorem ok_X1_putEdge : OkV M_X1_putEdge RX1 3 := ⟨tb_308, tb_309, tb_58, tb_310, rfl, by decide, by decide, by decide +kernel⟩
abbrev M_X1_putWeight : MTy := (yX1_putWeight, cX1_putWeight, 3, none, { frames := 1, cells := 0, slots := 0, locals := 21 })
theorem ok_X1_putWeight : OkV M_X1_putWeight RX1 2 := ⟨tb_292, tb_293, tb_58, tb_294, rfl, by decide, by decide, by decide +kernel⟩
abbrev M_X1_reset : MTy := (yX1_reset, cX1_reset, 3, none, { frames := 1, cells := 0, slots := 0, locals := 23 })
theorem ok_X1_reset : OkV M_X1_reset RX1 1 := ⟨tb_85, tb_86, tb_58, tb_87, rfl, by decide, by decide, by decide +kernel⟩
abbrev M_X1_vertices : MTy := (yX1_vertices, cX1_vertices, 1, (some .int), { frames := 0, cells := 0, slots := 0, locals := 0 })
theorem ok_X1_vertices : OkV M_X1_vertices RX1 0 := ⟨tb_288, tb_289, tb_58, tb_290, rfl, by decide, by decide, by decide +kernel⟩
abbrev M_X1_weightOf : MTy := (yX1_weightOf, cX1_weightOf, 2, (some .int), { frames := 1, cells := 0, slots := 0, locals := 21 })
theorem ok_X1_weightOf : OkV M_X1_weightOf RX1 1 := ⟨tb_356, tb_357, tb_58, tb_358, rfl, by decide, by decide, by decide +kernel⟩
abbrev M_X2_forget : MTy := (yX2_forget, cX2_forget, 1, none, { frames := 0, cells := 0, slots := 0, locals := 0 })
theorem ok_X2_forget : OkV M_X2_forget RX2 0 := ⟨tb_331, tb_332, tb_64, tb_333, rfl, by decide, by decide, by decide +kernel⟩
abbrev M_X2_init : MTy := (yX2_init, cX2_init, 2, none, { frames := 3, cells := 211, slots := 2408, locals := 65 })
theorem ok_X2_init : OkI M_X2_init 0 := ⟨tb_177, tb_64, tb_178, rfl, rfl, by decide, by decide, by decide +kernel⟩
abbrev M_X2_remember : MTy := (yX2_remember, cX2_remember, 2, none, { frames := 2, cells := 0, slots := 0, locals := 48 })
theorem ok_X2_remember : OkV M_X2_remember RX2 1 := ⟨tb_403, tb_404, tb_64, tb_405, rfl, by decide, by decide, by decide +kernel⟩
abbrev M_X2_size : MTy := (yX2_size, cX2_size, 1, (some .int), { frames := 0, cells := 0, slots := 0, locals := 0 })
theorem ok_X2_size : OkV M_X2_size RX2 0 := ⟨tb_434, tb_435, tb_64, tb_436, rfl, by decide, by decide, by decide +kernel⟩
abbrev M_X2_takeBack : MTy := (yX2_takeBack, cX2_takeBack, 2, (some .boolean), { frames := 2, cells := 0, slots := 0, locals := 48 })
theorem ok_X2_takeBack : OkV M_X2_takeBack RX2 1 := ⟨tb_430, tb_431, tb_64, tb_432, rfl, by decide, by decide, by decide +kernel⟩
abbrev M_X3_countWeights : MTy := (yX3_countWeights, cX3_countWeights, 9, (some .int), { frames := 3, cells := 0, slots := 0, locals := 71 })
theorem ok_X3_countWeights : OkV M_X3_countWeights RX3 3 := ⟨tb_647, tb_648, tb_65, tb_649, rfl, by decide, by decide, by decide +kernel⟩
abbrev M_X3_init : MTy := (yX3_init, cX3_init, 1, none, { frames := 1, cells := 3, slots := 18, locals := 20 })
theorem ok_X3_init : OkI M_X3_init 0 := ⟨tb_196, tb_65, tb_197, rfl, rfl, by decide, by decide, by decide +kernel⟩
abbrev M_X3_store : MTy := (yX3_store, cX3_store, 4, (some .int), { frames := 1, cells := 0, slots := 0, locals := 21 })
theorem ok_X3_store : OkV M_X3_store RX3 3 := ⟨tb_638, tb_639, tb_65, tb_640, rfl, by decide, by decide, by decide +kernel⟩
abbrev M_X4_empty : MTy := (yX4_empty, cX4_empty, 1, none, { frames := 0, cells := 0, slots := 0, locals := 0 })
theorem ok_X4_empty : OkV M_X4_empty RX4 0 := ⟨tb_263, tb_264, tb_63, tb_265, rfl, by decide, by decide, by decide +kernel⟩
abbrev M_X4_init : MTy := (yX4_init, cX4_init, 1, none, { frames := 1, cells := 2, slots := 92, locals := 20 })
theorem ok_X4_init : OkI M_X4_init 0 := ⟨tb_158, tb_63, tb_159, rfl, rfl, by decide, by decide, by decide +kernel⟩
abbrev M_X4_joinTrees : MTy := (yX4_joinTrees, cX4_joinTrees, 4, none, { frames := 0, cells := 0, slots := 0, locals := 0 })
theorem ok_X4_joinTrees : OkV M_X4_joinTrees RX4 2 := ⟨tb_317, tb_5, tb_63, tb_318, rfl, by decide, by decide, by decide +kernel⟩
abbrev M_X4_put : MTy := (yX4_put, cX4_put, 2, (some .boolean), { frames := 0, cells := 0, slots := 0, locals := 0 })
theorem ok_X4_put : OkV M_X4_put RX4 1 := ⟨tb_251, tb_252, tb_63, tb_253, rfl, by decide, by decide, by decide +kernel⟩
abbrev M_X4_readInto : MTy := (yX4_readInto, cX4_readInto, 3, (some .int), { frames := 4, cells := 0, slots := 0, locals := 96 })
theorem ok_X4_readInto : OkV M_X4_readInto RX4 1 := ⟨tb_271, tb_272, tb_63, tb_273, rfl, by decide, by decide, by decide +kernel⟩
abbrev M_X4_size : MTy := (yX4_size, cX4_size, 1, (some .int), { frames := 0, cells := 0, slots := 0, locals := 0 })
theorem ok_X4_size : OkV M_X4_size RX4 0 := ⟨tb_255, tb_256, tb_63, tb_257, rfl, by decide, by decide, by decide +kernel⟩
abbrev M_X4_take : MTy := (yX4_take, cX4_take, 4, (some .int), { frames := 0, cells := 0, slots := 0, locals := 0 })
theorem ok_X4_take : OkV M_X4_take RX4 2 := ⟨tb_276, tb_0, tb_63, tb_277, rfl, by decide, by decide, by decide +kernel⟩
abbrev M_X4_takeEdge : MTy := (yX4_takeEdge, cX4_takeEdge, 6, (some .boolean), { frames := 2, cells := 0, slots := 0, locals := 49 })
theorem ok_X4_takeEdge : OkV M_X4_takeEdge RX4 1 := ⟨tb_305, tb_4, tb_63, tb_306, rfl, by decide, by decide, by decide +kernel⟩
abbrev M_X4_takeEdges : MTy := (yX4_takeEdges, cX4_takeEdges, 3, (some .boolean), { frames := 3, cells := 0, slots := 0, locals := 74 })
theorem ok_X4_takeEdges : OkV M_X4_takeEdges RX4 1 := ⟨tb_301, tb_3, tb_63, tb_302, rfl, by decide, by decide, by decide +kernel⟩
abbrev M_X4_takeNumber : MTy := (yX4_takeNumber, cX4_takeNumber, 7, (some .int), { frames := 1, cells := 0, slots := 0, locals := 23 })
theorem ok_X4_takeNumber : OkV M_X4_takeNumber RX4 2 := ⟨tb_280, tb_1, tb_63, tb_281, rfl, by decide, by decide, by decide +kernel⟩
abbrev M_X4_takeWeights : MTy := (yX4_takeWeights, cX4_takeWeights, 4, (some .boolean), { frames := 2, cells := 0, slots := 0, locals := 49 })
theorem ok_X4_takeWeights : OkV M_X4_takeWeights RX4 1 := ⟨tb_285, tb_2, tb_63, tb_286, rfl, by decide, by decide, by decide +kernel⟩
abbrev M_X5_between : MTy := (yX5_between, cX5_between, 3, (some .int), { frames := 0, cells := 0, slots := 0, locals := 0 })
theorem ok_X5_between : OkV M_X5_between RX5 2 := ⟨tb_391, tb_392, tb_61, tb_393, rfl, by decide, by decide, by decide +kernel⟩
abbrev M_X5_chanceOfPath : MTy := (yX5_chanceOfPath, cX5_chanceOfPath, 8, (some .long), { frames := 4, cells := 0, slots := 0, locals := 89 })
theorem ok_X5_chanceOfPath : OkV M_X5_chanceOfPath RX5 3 := ⟨tb_629, tb_23, tb_61, tb_630, rfl, by decide, by decide, by decide +kernel⟩
abbrev M_X5_cheapestOf : MTy := (yX5_cheapestOf, cX5_cheapestOf, 5, (some .int), { frames := 3, cells := 0, slots := 0, locals := 67 })
theorem ok_X5_cheapestOf : OkV M_X5_cheapestOf RX5 1 := ⟨tb_500, tb_501, tb_61, tb_502, rfl, by decide, by decide, by decide +kernel⟩
abbrev M_X5_edgeOf : MTy := (yX5_edgeOf, cX5_edgeOf, 3, (some .int), { frames := 2, cells := 0, slots := 0, locals := 44 })
theorem ok_X5_edgeOf : OkV M_X5_edgeOf RX5 2 := ⟨tb_657, tb_658, tb_61, tb_659, rfl, by decide, by decide, by decide +kernel⟩
abbrev M_X5_evenestEdge : MTy := (yX5_evenestEdge, cX5_evenestEdge, 6, (some .int), { frames := 3, cells := 0, slots := 0, locals := 69 })
theorem ok_X5_evenestEdge : OkV M_X5_evenestEdge RX5 1 := ⟨tb_609, tb_610, tb_61, tb_611, rfl, by decide, by decide, by decide +kernel⟩
abbrev M_X5_extendOver : MTy := (yX5_extendOver, cX5_extendOver, 5, none, { frames := 1, cells := 0, slots := 0, locals := 21 })
theorem ok_X5_extendOver : OkV M_X5_extendOver RX5 2 := ⟨tb_379, tb_7, tb_61, tb_380, rfl, by decide, by decide, by decide +kernel⟩
abbrev M_X5_firstFarthest : MTy := (yX5_firstFarthest, cX5_firstFarthest, 6, (some .int), { frames := 1, cells := 0, slots := 0, locals := 22 })
theorem ok_X5_firstFarthest : OkV M_X5_firstFarthest RX5 1 := ⟨tb_464, tb_465, tb_61, tb_466, rfl, by decide, by decide, by decide +kernel⟩
abbrev M_X5_firstWideEnd : MTy := (yX5_firstWideEnd, cX5_firstWideEnd, 5, (some .int), { frames := 3, cells := 0, slots := 0, locals := 68 })
theorem ok_X5_firstWideEnd : OkV M_X5_firstWideEnd RX5 1 := ⟨tb_476, tb_477, tb_61, tb_478, rfl, by decide, by decide, by decide +kernel⟩
abbrev M_X5_goesOver : MTy := (yX5_goesOver, cX5_goesOver, 8, (some .boolean), { frames := 2, cells := 0, slots := 0, locals := 44 })
theorem ok_X5_goesOver : OkV M_X5_goesOver RX5 4 := ⟨tb_653, tb_654, tb_61, tb_655, rfl, by decide, by decide, by decide +kernel⟩
abbrev M_X5_greatestFrom : MTy := (yX5_greatestFrom, cX5_greatestFrom, 2, (some .int), { frames := 2, cells := 0, slots := 0, locals := 47 })
theorem ok_X5_greatestFrom : OkV M_X5_greatestFrom RX5 1 := ⟨tb_460, tb_461, tb_61, tb_462, rfl, by decide, by decide, by decide +kernel⟩
abbrev M_X5_heavierPart : MTy := (yX5_heavierPart, cX5_heavierPart, 6, (some .int), { frames := 2, cells := 0, slots := 0, locals := 44 })
theorem ok_X5_heavierPart : OkV M_X5_heavierPart RX5 2 := ⟨tb_614, tb_22, tb_61, tb_615, rfl, by decide, by decide, by decide +kernel⟩
abbrev M_X5_init : MTy := (yX5_init, cX5_init, 2, none, { frames := 1, cells := 13, slots := 156, locals := 20 })
theorem ok_X5_init : OkI M_X5_init 1 := ⟨tb_111, tb_61, tb_112, rfl, rfl, by decide, by decide, by decide +kernel⟩
abbrev M_X5_joined : MTy := (yX5_joined, cX5_joined, 3, (some .boolean), { frames := 1, cells := 0, slots := 0, locals := 22 })
theorem ok_X5_joined : OkV M_X5_joined RX5 2 := ⟨tb_387, tb_388, tb_61, tb_389, rfl, by decide, by decide, by decide +kernel⟩
abbrev M_X5_measure : MTy := (yX5_measure, cX5_measure, 4, none, { frames := 2, cells := 0, slots := 0, locals := 45 })
theorem ok_X5_measure : OkV M_X5_measure RX5 0 := ⟨tb_371, tb_372, tb_61, tb_373, rfl, by decide, by decide, by decide +kernel⟩
abbrev M_X5_meetingOf : MTy := (yX5_meetingOf, cX5_meetingOf, 5, (some .int), { frames := 2, cells := 0, slots := 0, locals := 45 })
theorem ok_X5_meetingOf : OkV M_X5_meetingOf RX5 3 := ⟨tb_518, tb_519, tb_61, tb_520, rfl, by decide, by decide, by decide +kernel⟩
abbrev M_X5_middleOf : MTy := (yX5_middleOf, cX5_middleOf, 5, (some .int), { frames := 3, cells := 0, slots := 0, locals := 68 })
theorem ok_X5_middleOf : OkV M_X5_middleOf RX5 1 := ⟨tb_491, tb_492, tb_61, tb_493, rfl, by decide, by decide, by decide +kernel⟩
abbrev M_X5_onPath : MTy := (yX5_onPath, cX5_onPath, 4, (some .boolean), { frames := 1, cells := 0, slots := 0, locals := 22 })
theorem ok_X5_onPath : OkV M_X5_onPath RX5 3 := ⟨tb_523, tb_9, tb_61, tb_524, rfl, by decide, by decide, by decide +kernel⟩
abbrev M_X5_priceOf : MTy := (yX5_priceOf, cX5_priceOf, 4, (some .int), { frames := 2, cells := 0, slots := 0, locals := 44 })
theorem ok_X5_priceOf : OkV M_X5_priceOf RX5 1 := ⟨tb_504, tb_505, tb_61, tb_506, rfl, by decide, by decide, by decide +kernel⟩
abbrev M_X5_reachOf : MTy := (yX5_reachOf, cX5_reachOf, 6, (some .long), { frames := 5, cells := 0, slots := 0, locals := 116 })
theorem ok_X5_reachOf : OkV M_X5_reachOf RX5 2 := ⟨tb_624, tb_625, tb_61, tb_626, rfl, by decide, by decide, by decide +kernel⟩
abbrev M_X5_smallestJoined : MTy := (yX5_smallestJoined, cX5_smallestJoined, 3, (some .int), { frames := 2, cells := 0, slots := 0, locals := 44 })
theorem ok_X5_smallestJoined : OkV M_X5_smallestJoined RX5 1 := ⟨tb_383, tb_384, tb_61, tb_385, rfl, by decide, by decide, by decide +kernel⟩
abbrev M_X5_stepToward : MTy := (yX5_stepToward, cX5_stepToward, 4, (some .int), { frames := 3, cells := 0, slots := 0, locals := 66 })
theorem ok_X5_stepToward : OkV M_X5_stepToward RX5 2 := ⟨tb_452, tb_8, tb_61, tb_453, rfl, by decide, by decide, by decide +kernel⟩
abbrev M_X5_vertexOnPath : MTy := (yX5_vertexOnPath, cX5_vertexOnPath, 6, (some .int), { frames := 4, cells := 0, slots := 0, locals := 89 })
theorem ok_X5_vertexOnPath : OkV M_X5_vertexOnPath RX5 3 := ⟨tb_447, tb_448, tb_61, tb_449, rfl, by decide, by decide, by decide +kernel⟩
abbrev M_X5_widthAround : MTy := (yX5_widthAround, cX5_widthAround, 2, (some .int), { frames := 4, cells := 0, slots := 0, locals := 92 })
theorem ok_X5_widthAround : OkV M_X5_widthAround RX5 1 := ⟨tb_472, tb_473, tb_61, tb_474, rfl, by decide, by decide, by decide +kernel⟩
abbrev M_X6_append : MTy := (yX6_append, cX6_append, 2, (some .int), { frames := 1, cells := 0, slots := 0, locals := 21 })
theorem ok_X6_append : OkV M_X6_append RX6 1 := ⟨tb_247, tb_248, tb_57, tb_249, rfl, by decide, by decide, by decide +kernel⟩
abbrev M_X6_balancedCut : MTy := (yX6_balancedCut, cX6_balancedCut, 2, (some .int), { frames := 4, cells := 0, slots := 0, locals := 94 })
theorem ok_X6_balancedCut : OkV M_X6_balancedCut RX6 1 := ⟨tb_605, tb_606, tb_57, tb_607, rfl, by decide, by decide, by decide +kernel⟩
abbrev M_X6_centre : MTy := (yX6_centre, cX6_centre, 2, (some .int), { frames := 4, cells := 0, slots := 0, locals := 92 })
theorem ok_X6_centre : OkV M_X6_centre RX6 1 := ⟨tb_487, tb_488, tb_57, tb_489, rfl, by decide, by decide, by decide +kernel⟩
abbrev M_X6_changeTrial : MTy := (yX6_changeTrial, cX6_changeTrial, 6, none, { frames := 4, cells := 0, slots := 0, locals := 92 })
theorem ok_X6_changeTrial : OkV M_X6_changeTrial RX6 1 := ⟨tb_694, tb_29, tb_57, tb_695, rfl, by decide, by decide, by decide +kernel⟩
abbrev M_X6_clearText : MTy := (yX6_clearText, cX6_clearText, 2, (some .int), { frames := 1, cells := 0, slots := 0, locals := 20 })
theorem ok_X6_clearText : OkV M_X6_clearText RX6 0 := ⟨tb_259, tb_260, tb_57, tb_261, rfl, by decide, by decide, by decide +kernel⟩
abbrev M_X6_cost : MTy := (yX6_cost, cX6_cost, 2, (some .int), { frames := 3, cells := 0, slots := 0, locals := 68 })
theorem ok_X6_cost : OkV M_X6_cost RX6 1 := ⟨tb_509, tb_510, tb_57, tb_511, rfl, by decide, by decide, by decide +kernel⟩
abbrev M_X6_cut : MTy := (yX6_cut, cX6_cut, 5, (some .int), { frames := 4, cells := 0, slots := 0, locals := 88 })
theorem ok_X6_cut : OkV M_X6_cut RX6 2 := ⟨tb_410, tb_411, tb_57, tb_412, rfl, by decide, by decide, by decide +kernel⟩
abbrev M_X6_cutError : MTy := (yX6_cutError, cX6_cutError, 3, (some .int), { frames := 3, cells := 0, slots := 0, locals := 66 })
theorem ok_X6_cutError : OkS M_X6_cutError 3 := ⟨tb_414, tb_57, tb_415, by decide, by decide, by decide +kernel⟩
abbrev M_X6_diameter : MTy := (yX6_diameter, cX6_diameter, 2, (some .int), { frames := 5, cells := 0, slots := 0, locals := 113 })
theorem ok_X6_diameter : OkV M_X6_diameter RX6 1 := ⟨tb_468, tb_469, tb_57, tb_470, rfl, by decide, by decide, by decide +kernel⟩
abbrev M_X6_diameterEnd : MTy := (yX6_diameterEnd, cX6_diameterEnd, 4, (some .int), { frames := 4, cells := 0, slots := 0, locals := 92 })
theorem ok_X6_diameterEnd : OkV M_X6_diameterEnd RX6 2 := ⟨tb_481, tb_482, tb_57, tb_483, rfl, by decide, by decide, by decide +kernel⟩
abbrev M_X6_distance : MTy := (yX6_distance, cX6_distance, 3, (some .int), { frames := 3, cells := 0, slots := 0, locals := 68 })
theorem ok_X6_distance : OkV M_X6_distance RX6 2 := ⟨tb_438, tb_439, tb_57, tb_440, rfl, by decide, by decide, by decide +kernel⟩
abbrev M_X6_eccentricity : MTy := (yX6_eccentricity, cX6_eccentricity, 2, (some .int), { frames := 3, cells := 0, slots := 0, locals := 68 })
theorem ok_X6_eccentricity : OkV M_X6_eccentricity RX6 1 := ⟨tb_456, tb_457, tb_57, tb_458, rfl, by decide, by decide, by decide +kernel⟩
abbrev M_X6_edgeWeight : MTy := (yX6_edgeWeight, cX6_edgeWeight, 3, (some .int), { frames := 3, cells := 0, slots := 0, locals := 66 })
theorem ok_X6_edgeWeight : OkV M_X6_edgeWeight RX6 2 := ⟨tb_360, tb_361, tb_57, tb_362, rfl, by decide, by decide, by decide +kernel⟩
abbrev M_X6_emptySlots : MTy := (yX6_emptySlots, cX6_emptySlots, 2, none, { frames := 0, cells := 0, slots := 0, locals := 0 })
theorem ok_X6_emptySlots : OkV M_X6_emptySlots RX6 0 := ⟨tb_336, tb_6, tb_57, tb_337, rfl, by decide, by decide, by decide +kernel⟩
abbrev M_X6_errorPosition : MTy := (yX6_errorPosition, cX6_errorPosition, 1, (some .int), { frames := 5, cells := 0, slots := 0, locals := 118 })
theorem ok_X6_errorPosition : OkV M_X6_errorPosition RX6 0 := ⟨tb_267, tb_268, tb_57, tb_269, rfl, by decide, by decide, by decide +kernel⟩
abbrev M_X6_expectedReach : MTy := (yX6_expectedReach, cX6_expectedReach, 3, (some .long), { frames := 6, cells := 0, slots := 0, locals := 141 })
theorem ok_X6_expectedReach : OkV M_X6_expectedReach RX6 2 := ⟨tb_618, tb_619, tb_57, tb_620, rfl, by decide, by decide, by decide +kernel⟩
abbrev M_X6_init : MTy := (yX6_init, cX6_init, 2, none, { frames := 4, cells := 326, slots := 3735, locals := 86 })
theorem ok_X6_init : OkI M_X6_init 0 := ⟨tb_71, tb_57, tb_72, rfl, rfl, by decide, by decide, by decide +kernel⟩
abbrev M_X6_joinedInTrial : MTy := (yX6_joinedInTrial, cX6_joinedInTrial, 3, (some .boolean), { frames := 3, cells := 0, slots := 0, locals := 68 })
theorem ok_X6_joinedInTrial : OkV M_X6_joinedInTrial RX6 2 := ⟨tb_680, tb_27, tb_57, tb_681, rfl, by decide, by decide, by decide +kernel⟩
abbrev M_X6_leavesEarlier : MTy := (yX6_leavesEarlier, cX6_leavesEarlier, 5, (some .boolean), { frames := 4, cells := 0, slots := 0, locals := 89 })
theorem ok_X6_leavesEarlier : OkV M_X6_leavesEarlier RX6 2 := ⟨tb_684, tb_28, tb_57, tb_685, rfl, by decide, by decide, by decide +kernel⟩
abbrev M_X6_link : MTy := (yX6_link, cX6_link, 5, (some .int), { frames := 4, cells := 0, slots := 0, locals := 92 })
theorem ok_X6_link : OkV M_X6_link RX6 3 := ⟨tb_395, tb_396, tb_57, tb_397, rfl, by decide, by decide, by decide +kernel⟩
abbrev M_X6_linkError : MTy := (yX6_linkError, cX6_linkError, 5, (some .int), { frames := 3, cells := 0, slots := 0, locals := 68 })
theorem ok_X6_linkError : OkS M_X6_linkError 5 := ⟨tb_399, tb_57, tb_400, by decide, by decide, by decide +kernel⟩
abbrev M_X6_load : MTy := (yX6_load, cX6_load, 1, (some .int), { frames := 5, cells := 0, slots := 0, locals := 118 })
theorem ok_X6_load : OkV M_X6_load RX6 0 := ⟨tb_320, tb_321, tb_57, tb_322, rfl, by decide, by decide, by decide +kernel⟩
abbrev M_X6_median : MTy := (yX6_median, cX6_median, 2, (some .int), { frames := 4, cells := 0, slots := 0, locals := 91 })
theorem ok_X6_median : OkV M_X6_median RX6 1 := ⟨tb_496, tb_497, tb_57, tb_498, rfl, by decide, by decide, by decide +kernel⟩
abbrev M_X6_meeting : MTy := (yX6_meeting, cX6_meeting, 4, (some .int), { frames := 3, cells := 0, slots := 0, locals := 69 })
theorem ok_X6_meeting : OkV M_X6_meeting RX6 3 := ⟨tb_514, tb_515, tb_57, tb_516, rfl, by decide, by decide, by decide +kernel⟩
abbrev M_X6_obeys : MTy := (yX6_obeys, cX6_obeys, 4, (some .boolean), { frames := 5, cells := 0, slots := 0, locals := 114 })
theorem ok_X6_obeys : OkV M_X6_obeys RX6 1 := ⟨tb_668, tb_24, tb_57, tb_669, rfl, by decide, by decide, by decide +kernel⟩
abbrev M_X6_observe : MTy := (yX6_observe, cX6_observe, 4, (some .int), { frames := 2, cells := 0, slots := 0, locals := 44 })
theorem ok_X6_observe : OkV M_X6_observe RX6 3 := ⟨tb_634, tb_635, tb_57, tb_636, rfl, by decide, by decide, by decide +kernel⟩
abbrev M_X6_pathVertex : MTy := (yX6_pathVertex, cX6_pathVertex, 4, (some .int), { frames := 5, cells := 0, slots := 0, locals := 114 })
theorem ok_X6_pathVertex : OkV M_X6_pathVertex RX6 3 := ⟨tb_443, tb_444, tb_57, tb_445, rfl, by decide, by decide, by decide +kernel⟩
abbrev M_X6_possibleWeights : MTy := (yX6_possibleWeights, cX6_possibleWeights, 3, (some .int), { frames := 4, cells := 0, slots := 0, locals := 99 })
theorem ok_X6_possibleWeights : OkV M_X6_possibleWeights RX6 2 := ⟨tb_643, tb_644, tb_57, tb_645, rfl, by decide, by decide, by decide +kernel⟩
abbrev M_X6_randomChanges : MTy := (yX6_randomChanges, cX6_randomChanges, 8, (some .int), { frames := 5, cells := 0, slots := 0, locals := 117 })
theorem ok_X6_randomChanges : OkV M_X6_randomChanges RX6 2 := ⟨tb_687, tb_688, tb_57, tb_689, rfl, by decide, by decide, by decide +kernel⟩
abbrev M_X6_removalRound : MTy := (yX6_removalRound, cX6_removalRound, 2, (some .int), { frames := 4, cells := 0, slots := 0, locals := 89 })
theorem ok_X6_removalRound : OkV M_X6_removalRound RX6 1 := ⟨tb_589, tb_590, tb_57, tb_591, rfl, by decide, by decide, by decide +kernel⟩
abbrev M_X6_restore : MTy := (yX6_restore, cX6_restore, 2, (some .int), { frames := 4, cells := 0, slots := 0, locals := 89 })
theorem ok_X6_restore : OkV M_X6_restore RX6 1 := ⟨tb_702, tb_703, tb_57, tb_704, rfl, by decide, by decide, by decide +kernel⟩
abbrev M_X6_rounds : MTy := (yX6_rounds, cX6_rounds, 2, (some .int), { frames := 4, cells := 0, slots := 0, locals := 89 })
theorem ok_X6_rounds : OkV M_X6_rounds RX6 1 := ⟨tb_526, tb_527, tb_57, tb_528, rfl, by decide, by decide, by decide +kernel⟩
abbrev M_X6_runScript : MTy := (yX6_runScript, cX6_runScript, 7, (some .int), { frames := 6, cells := 0, slots := 0, locals := 137 })
theorem ok_X6_runScript : OkV M_X6_runScript RX6 2 := ⟨tb_662, tb_663, tb_57, tb_664, rfl, by decide, by decide, by decide +kernel⟩
abbrev M_X6_save : MTy := (yX6_save, cX6_save, 2, (some .int), { frames := 4, cells := 0, slots := 0, locals := 89 })
theorem ok_X6_save : OkV M_X6_save RX6 1 := ⟨tb_698, tb_699, tb_57, tb_700, rfl, by decide, by decide, by decide +kernel⟩
abbrev M_X6_setEdgeWeight : MTy := (yX6_setEdgeWeight, cX6_setEdgeWeight, 5, (some .int), { frames := 3, cells := 0, slots := 0, locals := 69 })
theorem ok_X6_setEdgeWeight : OkV M_X6_setEdgeWeight RX6 3 := ⟨tb_417, tb_418, tb_57, tb_419, rfl, by decide, by decide, by decide +kernel⟩
abbrev M_X6_setVertexWeight : MTy := (yX6_setVertexWeight, cX6_setVertexWeight, 4, (some .int), { frames := 3, cells := 0, slots := 0, locals := 69 })
theorem ok_X6_setVertexWeight : OkV M_X6_setVertexWeight RX6 2 := ⟨tb_421, tb_422, tb_57, tb_423, rfl, by decide, by decide, by decide +kernel⟩
abbrev M_X6_survivor : MTy := (yX6_survivor, cX6_survivor, 2, (some .int), { frames := 4, cells := 0, slots := 0, locals := 89 })
theorem ok_X6_survivor : OkV M_X6_survivor RX6 1 := ⟨tb_597, tb_598, tb_57, tb_599, rfl, by decide, by decide, by decide +kernel⟩
abbrev M_X6_treeOf : MTy := (yX6_treeOf, cX6_treeOf, 2, (some .int), { frames := 3, cells := 0, slots := 0, locals := 68 })
theorem ok_X6_treeOf : OkV M_X6_treeOf RX6 1 := ⟨tb_367, tb_368, tb_57, tb_369, rfl, by decide, by decide, by decide +kernel⟩
abbrev M_X6_triesCut : MTy := (yX6_triesCut, cX6_triesCut, 3, (some .boolean), { frames := 4, cells := 0, slots := 0, locals := 88 })
theorem ok_X6_triesCut : OkV M_X6_triesCut RX6 2 := ⟨tb_676, tb_26, tb_57, tb_677, rfl, by decide, by decide, by decide +kernel⟩
abbrev M_X6_triesLink : MTy := (yX6_triesLink, cX6_triesLink, 3, (some .boolean), { frames := 4, cells := 0, slots := 0, locals := 92 })
theorem ok_X6_triesLink : OkV M_X6_triesLink RX6 2 := ⟨tb_672, tb_25, tb_57, tb_673, rfl, by decide, by decide, by decide +kernel⟩
abbrev M_X6_undo : MTy := (yX6_undo, cX6_undo, 1, (some .int), { frames := 3, cells := 0, slots := 0, locals := 69 })
theorem ok_X6_undo : OkV M_X6_undo RX6 0 := ⟨tb_426, tb_427, tb_57, tb_428, rfl, by decide, by decide, by decide +kernel⟩
abbrev M_X6_vertexWeight : MTy := (yX6_vertexWeight, cX6_vertexWeight, 2, (some .int), { frames := 2, cells := 0, slots := 0, locals := 42 })
theorem ok_X6_vertexWeight : OkV M_X6_vertexWeight RX6 1 := ⟨tb_351, tb_352, tb_57, tb_353, rfl, by decide, by decide, by decide +kernel⟩
abbrev M_X7_agrees : MTy := (yX7_agrees, cX7_agrees, 6, (some .boolean), { frames := 3, cells := 0, slots := 0, locals := 69 })
theorem ok_X7_agrees : OkV M_X7_agrees RX7 1 := ⟨tb_1016, tb_54, tb_66, tb_1017, rfl, by decide, by decide, by decide +kernel⟩
abbrev M_X7_append : MTy := (yX7_append, cX7_append, 2, (some .int), { frames := 1, cells := 0, slots := 0, locals := 25 })
theorem ok_X7_append : OkV M_X7_append RX7 1 := ⟨tb_785, tb_786, tb_66, tb_787, rfl, by decide, by decide, by decide +kernel⟩
abbrev M_X7_at : MTy := (yX7_at, cX7_at, 2, (some .int), { frames := 0, cells := 0, slots := 0, locals := 0 })
theorem ok_X7_at : OkS M_X7_at 2 := ⟨tb_829, tb_66, tb_830, by decide, by decide, by decide +kernel⟩
abbrev M_X7_balancedCut : MTy := (yX7_balancedCut, cX7_balancedCut, 9, (some .int), { frames := 4, cells := 0, slots := 0, locals := 92 })
theorem ok_X7_balancedCut : OkV M_X7_balancedCut RX7 1 := ⟨tb_990, tb_991, tb_66, tb_992, rfl, by decide, by decide, by decide +kernel⟩
abbrev M_X7_centre : MTy := (yX7_centre, cX7_centre, 2, (some .int), { frames := 4, cells := 0, slots := 0, locals := 97 })
theorem ok_X7_centre : OkV M_X7_centre RX7 1 := ⟨tb_922, tb_923, tb_66, tb_924, rfl, by decide, by decide, by decide +kernel⟩
abbrev M_X7_clearText : MTy := (yX7_clearText, cX7_clearText, 2, (some .int), { frames := 0, cells := 0, slots := 0, locals := 0 })
theorem ok_X7_clearText : OkV M_X7_clearText RX7 0 := ⟨tb_793, tb_794, tb_66, tb_795, rfl, by decide, by decide, by decide +kernel⟩
abbrev M_X7_command : MTy := (yX7_command, cX7_command, 5, (some .boolean), { frames := 5, cells := 0, slots := 0, locals := 116 })
theorem ok_X7_command : OkV M_X7_command RX7 3 := ⟨tb_1029, tb_55, tb_66, tb_1030, rfl, by decide, by decide, by decide +kernel⟩
abbrev M_X7_compress : MTy := (yX7_compress, cX7_compress, 5, none, { frames := 1, cells := 0, slots := 0, locals := 23 })
theorem ok_X7_compress : OkV M_X7_compress RX7 1 := ⟨tb_975, tb_51, tb_66, tb_976, rfl, by decide, by decide, by decide +kernel⟩
abbrev M_X7_contract : MTy := (yX7_contract, cX7_contract, 5, none, { frames := 2, cells := 0, slots := 0, locals := 47 })
theorem ok_X7_contract : OkV M_X7_contract RX7 2 := ⟨tb_955, tb_46, tb_66, tb_956, rfl, by decide, by decide, by decide +kernel⟩
abbrev M_X7_copy : MTy := (yX7_copy, cX7_copy, 3, none, { frames := 0, cells := 0, slots := 0, locals := 0 })
theorem ok_X7_copy : OkS M_X7_copy 2 := ⟨tb_839, tb_66, tb_840, by decide, by decide, by decide +kernel⟩
abbrev M_X7_cost : MTy := (yX7_cost, cX7_cost, 2, (some .int), { frames := 3, cells := 0, slots := 0, locals := 70 })
theorem ok_X7_cost : OkV M_X7_cost RX7 1 := ⟨tb_938, tb_939, tb_66, tb_940, rfl, by decide, by decide, by decide +kernel⟩
abbrev M_X7_costOf : MTy := (yX7_costOf, cX7_costOf, 5, (some .int), { frames := 2, cells := 0, slots := 0, locals := 46 })
theorem ok_X7_costOf : OkV M_X7_costOf RX7 2 := ⟨tb_931, tb_44, tb_66, tb_932, rfl, by decide, by decide, by decide +kernel⟩
abbrev M_X7_cut : MTy := (yX7_cut, cX7_cut, 5, (some .int), { frames := 3, cells := 0, slots := 0, locals := 70 })
theorem ok_X7_cut : OkV M_X7_cut RX7 2 := ⟨tb_874, tb_875, tb_66, tb_876, rfl, by decide, by decide, by decide +kernel⟩
abbrev M_X7_degreeOf : MTy := (yX7_degreeOf, cX7_degreeOf, 4, (some .int), { frames := 0, cells := 0, slots := 0, locals := 0 })
theorem ok_X7_degreeOf : OkV M_X7_degreeOf RX7 1 := ⟨tb_967, tb_49, tb_66, tb_968, rfl, by decide, by decide, by decide +kernel⟩
abbrev M_X7_diameter : MTy := (yX7_diameter, cX7_diameter, 2, (some .int), { frames := 4, cells := 0, slots := 0, locals := 95 })
theorem ok_X7_diameter : OkV M_X7_diameter RX7 1 := ⟨tb_910, tb_911, tb_66, tb_912, rfl, by decide, by decide, by decide +kernel⟩
abbrev M_X7_diameterEnd : MTy := (yX7_diameterEnd, cX7_diameterEnd, 6, (some .int), { frames := 4, cells := 0, slots := 0, locals := 95 })
theorem ok_X7_diameterEnd : OkV M_X7_diameterEnd RX7 2 := ⟨tb_918, tb_919, tb_66, tb_920, rfl, by decide, by decide, by decide +kernel⟩
abbrev M_X7_diameterOf : MTy := (yX7_diameterOf, cX7_diameterOf, 6, (some .int), { frames := 3, cells := 0, slots := 0, locals := 70 })
theorem ok_X7_diameterOf : OkV M_X7_diameterOf RX7 2 := ⟨tb_915, tb_42, tb_66, tb_916, rfl, by decide, by decide, by decide +kernel⟩
abbrev M_X7_distance : MTy := (yX7_distance, cX7_distance, 3, (some .int), { frames := 3, cells := 0, slots := 0, locals := 69 })
theorem ok_X7_distance : OkV M_X7_distance RX7 2 := ⟨tb_894, tb_895, tb_66, tb_896, rfl, by decide, by decide, by decide +kernel⟩
abbrev M_X7_eccentricity : MTy := (yX7_eccentricity, cX7_eccentricity, 2, (some .int), { frames := 3, cells := 0, slots := 0, locals := 70 })
theorem ok_X7_eccentricity : OkV M_X7_eccentricity RX7 1 := ⟨tb_902, tb_903, tb_66, tb_904, rfl, by decide, by decide, by decide +kernel⟩
abbrev M_X7_eccentricityOf : MTy := (yX7_eccentricityOf, cX7_eccentricityOf, 5, (some .int), { frames := 2, cells := 0, slots := 0, locals := 46 })
theorem ok_X7_eccentricityOf : OkV M_X7_eccentricityOf RX7 2 := ⟨tb_907, tb_41, tb_66, tb_908, rfl, by decide, by decide, by decide +kernel⟩
abbrev M_X7_edgeError : MTy := (yX7_edgeError, cX7_edgeError, 5, (some .int), { frames := 2, cells := 0, slots := 0, locals := 46 })
theorem ok_X7_edgeError : OkV M_X7_edgeError RX7 4 := ⟨tb_879, tb_40, tb_66, tb_880, rfl, by decide, by decide, by decide +kernel⟩
abbrev M_X7_edgeWeight : MTy := (yX7_edgeWeight, cX7_edgeWeight, 3, (some .int), { frames := 2, cells := 0, slots := 0, locals := 46 })
theorem ok_X7_edgeWeight : OkV M_X7_edgeWeight RX7 2 := ⟨tb_853, tb_854, tb_66, tb_855, rfl, by decide, by decide, by decide +kernel⟩
abbrev M_X7_edgesOf : MTy := (yX7_edgesOf, cX7_edgesOf, 3, (some .int), { frames := 0, cells := 0, slots := 0, locals := 0 })
theorem ok_X7_edgesOf : OkS M_X7_edgesOf 1 := ⟨tb_842, tb_66, tb_843, by decide, by decide, by decide +kernel⟩
abbrev M_X7_errorPosition : MTy := (yX7_errorPosition, cX7_errorPosition, 1, (some .int), { frames := 6, cells := 0, slots := 0, locals := 136 })
theorem ok_X7_errorPosition : OkV M_X7_errorPosition RX7 0 := ⟨tb_797, tb_798, tb_66, tb_799, rfl, by decide, by decide, by decide +kernel⟩
abbrev M_X7_expectedReach : MTy := (yX7_expectedReach, cX7_expectedReach, 9, (some .long), { frames := 2, cells := 0, slots := 0, locals := 46 })
theorem ok_X7_expectedReach : OkV M_X7_expectedReach RX7 2 := ⟨tb_998, tb_999, tb_66, tb_1000, rfl, by decide, by decide, by decide +kernel⟩
abbrev M_X7_farOf : MTy := (yX7_farOf, cX7_farOf, 4, (some .int), { frames := 2, cells := 0, slots := 0, locals := 46 })
theorem ok_X7_farOf : OkV M_X7_farOf RX7 3 := ⟨tb_822, tb_35, tb_66, tb_823, rfl, by decide, by decide, by decide +kernel⟩
abbrev M_X7_hundredThousands : MTy := (yX7_hundredThousands, cX7_hundredThousands, 4, (some .long), { frames := 0, cells := 0, slots := 0, locals := 0 })
theorem ok_X7_hundredThousands : OkS M_X7_hundredThousands 1 := ⟨tb_1024, tb_66, tb_1025, by decide, by decide, by decide +kernel⟩
abbrev M_X7_in : MTy := (yX7_in, cX7_in, 6, (some .boolean), { frames := 0, cells := 0, slots := 0, locals := 0 })
theorem ok_X7_in : OkS M_X7_in 3 := ⟨tb_790, tb_66, tb_791, by decide, by decide, by decide +kernel⟩
abbrev M_X7_init : MTy := (yX7_init, cX7_init, 2, none, { frames := 1, cells := 15, slots := 3280, locals := 20 })
theorem ok_X7_init : OkI M_X7_init 0 := ⟨tb_708, tb_66, tb_709, rfl, rfl, by decide, by decide, by decide +kernel⟩
abbrev M_X7_isOneTree : MTy := (yX7_isOneTree, cX7_isOneTree, 4, (some .boolean), { frames := 3, cells := 0, slots := 0, locals := 69 })
theorem ok_X7_isOneTree : OkV M_X7_isOneTree RX7 3 := ⟨tb_818, tb_34, tb_66, tb_819, rfl, by decide, by decide, by decide +kernel⟩
abbrev M_X7_isVertex : MTy := (yX7_isVertex, cX7_isVertex, 2, (some .boolean), { frames := 1, cells := 0, slots := 0, locals := 25 })
theorem ok_X7_isVertex : OkV M_X7_isVertex RX7 1 := ⟨tb_850, tb_37, tb_66, tb_851, rfl, by decide, by decide, by decide +kernel⟩
abbrev M_X7_join : MTy := (yX7_join, cX7_join, 4, none, { frames := 1, cells := 0, slots := 0, locals := 21 })
theorem ok_X7_join : OkS M_X7_join 4 := ⟨tb_832, tb_66, tb_833, by decide, by decide, by decide +kernel⟩
abbrev M_X7_layFar : MTy := (yX7_layFar, cX7_layFar, 6, none, { frames := 1, cells := 0, slots := 0, locals := 21 })
theorem ok_X7_layFar : OkV M_X7_layFar RX7 2 := ⟨tb_826, tb_36, tb_66, tb_827, rfl, by decide, by decide, by decide +kernel⟩
abbrev M_X7_leastOf : MTy := (yX7_leastOf, cX7_leastOf, 8, (some .int), { frames := 3, cells := 0, slots := 0, locals := 70 })
theorem ok_X7_leastOf : OkV M_X7_leastOf RX7 3 := ⟨tb_927, tb_43, tb_66, tb_928, rfl, by decide, by decide, by decide +kernel⟩
abbrev M_X7_liesBetween : MTy := (yX7_liesBetween, cX7_liesBetween, 5, (some .boolean), { frames := 3, cells := 0, slots := 0, locals := 69 })
theorem ok_X7_liesBetween : OkV M_X7_liesBetween RX7 3 := ⟨tb_947, tb_45, tb_66, tb_948, rfl, by decide, by decide, by decide +kernel⟩
abbrev M_X7_link : MTy := (yX7_link, cX7_link, 5, (some .int), { frames := 5, cells := 0, slots := 0, locals := 116 })
theorem ok_X7_link : OkV M_X7_link RX7 3 := ⟨tb_861, tb_862, tb_66, tb_863, rfl, by decide, by decide, by decide +kernel⟩
abbrev M_X7_linkError : MTy := (yX7_linkError, cX7_linkError, 5, (some .int), { frames := 4, cells := 0, slots := 0, locals := 92 })
theorem ok_X7_linkError : OkV M_X7_linkError RX7 4 := ⟨tb_866, tb_38, tb_66, tb_867, rfl, by decide, by decide, by decide +kernel⟩
abbrev M_X7_load : MTy := (yX7_load, cX7_load, 1, (some .int), { frames := 6, cells := 0, slots := 0, locals := 136 })
theorem ok_X7_load : OkV M_X7_load RX7 0 := ⟨tb_835, tb_836, tb_66, tb_837, rfl, by decide, by decide, by decide +kernel⟩
abbrev M_X7_many : MTy := (yX7_many, cX7_many, 3, (some .int), { frames := 0, cells := 0, slots := 0, locals := 0 })
theorem ok_X7_many : OkV M_X7_many RX7 0 := ⟨tb_959, tb_47, tb_66, tb_960, rfl, by decide, by decide, by decide +kernel⟩
abbrev M_X7_median : MTy := (yX7_median, cX7_median, 2, (some .int), { frames := 4, cells := 0, slots := 0, locals := 97 })
theorem ok_X7_median : OkV M_X7_median RX7 1 := ⟨tb_934, tb_935, tb_66, tb_936, rfl, by decide, by decide, by decide +kernel⟩
abbrev M_X7_meeting : MTy := (yX7_meeting, cX7_meeting, 5, (some .int), { frames := 4, cells := 0, slots := 0, locals := 93 })
theorem ok_X7_meeting : OkV M_X7_meeting RX7 3 := ⟨tb_942, tb_943, tb_66, tb_944, rfl, by decide, by decide, by decide +kernel⟩
abbrev M_X7_neighbour : MTy := (yX7_neighbour, cX7_neighbour, 4, (some .int), { frames := 0, cells := 0, slots := 0, locals := 0 })
theorem ok_X7_neighbour : OkV M_X7_neighbour RX7 2 := ⟨tb_979, tb_52, tb_66, tb_980, rfl, by decide, by decide, by decide +kernel⟩
abbrev M_X7_note : MTy := (yX7_note, cX7_note, 2, none, { frames := 0, cells := 0, slots := 0, locals := 0 })
theorem ok_X7_note : OkV M_X7_note RX7 0 := ⟨tb_871, tb_39, tb_66, tb_872, rfl, by decide, by decide, by decide +kernel⟩
abbrev M_X7_number : MTy := (yX7_number, cX7_number, 5, (some .int), { frames := 2, cells := 0, slots := 0, locals := 49 })
theorem ok_X7_number : OkV M_X7_number RX7 2 := ⟨tb_806, tb_31, tb_66, tb_807, rfl, by decide, by decide, by decide +kernel⟩
abbrev M_X7_observe : MTy := (yX7_observe, cX7_observe, 5, (some .int), { frames := 1, cells := 0, slots := 0, locals := 25 })
theorem ok_X7_observe : OkV M_X7_observe RX7 3 := ⟨tb_1005, tb_1006, tb_66, tb_1007, rfl, by decide, by decide, by decide +kernel⟩
abbrev M_X7_pathVertex : MTy := (yX7_pathVertex, cX7_pathVertex, 8, (some .int), { frames := 2, cells := 0, slots := 0, locals := 46 })
theorem ok_X7_pathVertex : OkV M_X7_pathVertex RX7 3 := ⟨tb_898, tb_899, tb_66, tb_900, rfl, by decide, by decide, by decide +kernel⟩
abbrev M_X7_possibleWeights : MTy := (yX7_possibleWeights, cX7_possibleWeights, 6, (some .int), { frames := 4, cells := 0, slots := 0, locals := 94 })
theorem ok_X7_possibleWeights : OkV M_X7_possibleWeights RX7 2 := ⟨tb_1011, tb_1012, tb_66, tb_1013, rfl, by decide, by decide, by decide +kernel⟩
abbrev M_X7_rake : MTy := (yX7_rake, cX7_rake, 5, none, { frames := 1, cells := 0, slots := 0, locals := 23 })
theorem ok_X7_rake : OkV M_X7_rake RX7 1 := ⟨tb_963, tb_48, tb_66, tb_964, rfl, by decide, by decide, by decide +kernel⟩
abbrev M_X7_randomChanges : MTy := (yX7_randomChanges, cX7_randomChanges, 12, (some .int), { frames := 4, cells := 0, slots := 0, locals := 95 })
theorem ok_X7_randomChanges : OkV M_X7_randomChanges RX7 2 := ⟨tb_1032, tb_1033, tb_66, tb_1034, rfl, by decide, by decide, by decide +kernel⟩
abbrev M_X7_readEdge : MTy := (yX7_readEdge, cX7_readEdge, 4, (some .boolean), { frames := 4, cells := 0, slots := 0, locals := 92 })
theorem ok_X7_readEdge : OkV M_X7_readEdge RX7 0 := ⟨tb_814, tb_33, tb_66, tb_815, rfl, by decide, by decide, by decide +kernel⟩
abbrev M_X7_readText : MTy := (yX7_readText, cX7_readText, 2, (some .int), { frames := 5, cells := 0, slots := 0, locals := 115 })
theorem ok_X7_readText : OkV M_X7_readText RX7 0 := ⟨tb_802, tb_30, tb_66, tb_803, rfl, by decide, by decide, by decide +kernel⟩
abbrev M_X7_removalRound : MTy := (yX7_removalRound, cX7_removalRound, 2, (some .int), { frames := 3, cells := 0, slots := 0, locals := 71 })
theorem ok_X7_removalRound : OkV M_X7_removalRound RX7 1 := ⟨tb_982, tb_983, tb_66, tb_984, rfl, by decide, by decide, by decide +kernel⟩
abbrev M_X7_removeVertex : MTy := (yX7_removeVertex, cX7_removeVertex, 4, none, { frames := 0, cells := 0, slots := 0, locals := 0 })
theorem ok_X7_removeVertex : OkV M_X7_removeVertex RX7 2 := ⟨tb_971, tb_50, tb_66, tb_972, rfl, by decide, by decide, by decide +kernel⟩
abbrev M_X7_restore : MTy := (yX7_restore, cX7_restore, 3, (some .int), { frames := 1, cells := 0, slots := 0, locals := 25 })
theorem ok_X7_restore : OkV M_X7_restore RX7 1 := ⟨tb_1043, tb_1044, tb_66, tb_1045, rfl, by decide, by decide, by decide +kernel⟩
abbrev M_X7_rounds : MTy := (yX7_rounds, cX7_rounds, 2, (some .int), { frames := 3, cells := 0, slots := 0, locals := 71 })
theorem ok_X7_rounds : OkV M_X7_rounds RX7 1 := ⟨tb_950, tb_951, tb_66, tb_952, rfl, by decide, by decide, by decide +kernel⟩
abbrev M_X7_runScript : MTy := (yX7_runScript, cX7_runScript, 6, (some .int), { frames := 6, cells := 0, slots := 0, locals := 140 })
theorem ok_X7_runScript : OkV M_X7_runScript RX7 2 := ⟨tb_1019, tb_1020, tb_66, tb_1021, rfl, by decide, by decide, by decide +kernel⟩
abbrev M_X7_save : MTy := (yX7_save, cX7_save, 3, (some .int), { frames := 1, cells := 0, slots := 0, locals := 25 })
theorem ok_X7_save : OkV M_X7_save RX7 1 := ⟨tb_1039, tb_1040, tb_66, tb_1041, rfl, by decide, by decide, by decide +kernel⟩
abbrev M_X7_setEdgeWeight : MTy := (yX7_setEdgeWeight, cX7_setEdgeWeight, 6, (some .int), { frames := 3, cells := 0, slots := 0, locals := 70 })
theorem ok_X7_setEdgeWeight : OkV M_X7_setEdgeWeight RX7 3 := ⟨tb_882, tb_883, tb_66, tb_884, rfl, by decide, by decide, by decide +kernel⟩
abbrev M_X7_setVertexWeight : MTy := (yX7_setVertexWeight, cX7_setVertexWeight, 4, (some .int), { frames := 2, cells := 0, slots := 0, locals := 46 })
theorem ok_X7_setVertexWeight : OkV M_X7_setVertexWeight RX7 2 := ⟨tb_886, tb_887, tb_66, tb_888, rfl, by decide, by decide, by decide +kernel⟩
abbrev M_X7_sign : MTy := (yX7_sign, cX7_sign, 5, (some .int), { frames := 1, cells := 0, slots := 0, locals := 25 })
theorem ok_X7_sign : OkV M_X7_sign RX7 3 := ⟨tb_810, tb_32, tb_66, tb_811, rfl, by decide, by decide, by decide +kernel⟩
abbrev M_X7_survivor : MTy := (yX7_survivor, cX7_survivor, 2, (some .int), { frames := 3, cells := 0, slots := 0, locals := 71 })
theorem ok_X7_survivor : OkV M_X7_survivor RX7 1 := ⟨tb_986, tb_987, tb_66, tb_988, rfl, by decide, by decide, by decide +kernel⟩
abbrev M_X7_treeOf : MTy := (yX7_treeOf, cX7_treeOf, 3, (some .int), { frames := 2, cells := 0, slots := 0, locals := 46 })
theorem ok_X7_treeOf : OkV M_X7_treeOf RX7 1 := ⟨tb_857, tb_858, tb_66, tb_859, rfl, by decide, by decide, by decide +kernel⟩
abbrev M_X7_undo : MTy := (yX7_undo, cX7_undo, 2, (some .int), { frames := 0, cells := 0, slots := 0, locals := 0 })
theorem ok_X7_undo : OkV M_X7_undo RX7 0 := ⟨tb_890, tb_891, tb_66, tb_892, rfl, by decide, by decide, by decide +kernel⟩
abbrev M_X7_vertexWeight : MTy := (yX7_vertexWeight, cX7_vertexWeight, 2, (some .int), { frames := 2, cells := 0, slots := 0, locals := 46 })
theorem ok_X7_vertexWeight : OkV M_X7_vertexWeight RX7 1 := ⟨tb_845, tb_846, tb_66, tb_847, rfl, by decide, by decide, by decide +kernel⟩
abbrev M_X7_weightWith : MTy := (yX7_weightWith, cX7_weightWith, 5, (some .int), { frames := 2, cells := 0, slots := 0, locals := 46 })
theorem ok_X7_weightWith : OkV M_X7_weightWith RX7 2 := ⟨tb_995, tb_53, tb_66, tb_996, rfl, by decide, by decide, by decide +kernel⟩
end
section
set_option maxRecDepth 100000 in
set_option maxHeartbeats 4000000 in
theorem t_J7_fill_53178_0 {l : Launch} {G : Gx} {P : Mem → Prop} {r n : Nat} (hr : Ia G r n) (a1 : Int32) (mem : Mem)
    (h : XV l M_J7_fill_53178 G P mem 5 [(0, .ref (gA G r)), (1, .int a1), (2, .int 0), (3, .int (Int32.ofNat n))] []) :
    XV l M_J7_fill_53178 G P mem 0 [(0, .ref (gA G r)), (1, .int a1)] [] := by
  refine x_iconst (pc := 0) (v := 0) dJ7_fill_53178_0 (by decide) ?_
  refine x_istore_n (pc := 1) dJ7_fill_53178_1 rfl (by decide) rfl ?_
  refine x_aload_n (pc := 2) dJ7_fill_53178_2 1 rfl rfl ?_
  refine x_alen (pc := 3) r dJ7_fill_53178_3 hr.1 (hr.2 _) rfl ?_
  refine x_istore_n (pc := 4) dJ7_fill_53178_4 rfl (by decide) rfl ?_
  exact x_sub [2, 3, 1, 0] rfl h
set_option maxRecDepth 100000 in
set_option maxHeartbeats 4000000 in
theorem t_J7_fill_53178_5 {l : Launch} {G : Gx} {P : Mem → Prop} {r n : Nat} (hr : Ia G r n) (a1 : Int32) (a2 : Int32) (a3 : Int32) (mem : Mem)
    (h : (a3 ≤ a2 → (P mem)) ∧ (¬ a3 ≤ a2 → (vp_in a2 n ∧ (XV l M_J7_fill_53178 G P (wr mem r a2.toNatClampNeg a1) 5 [(0, .ref (gA G r)), (1, .int a1), (2, .int (a2 + 1)), (3, .int a3)] [])))) :
    XV l M_J7_fill_53178 G P mem 5 [(0, .ref (gA G r)), (1, .int a1), (2, .int a2), (3, .int a3)] [] := by
  refine x_iload_n (pc := 5) dJ7_fill_53178_5 2 rfl rfl ?_
  refine x_iload_n (pc := 6) dJ7_fill_53178_6 3 rfl rfl ?_
  refine x_icmp_ge (pc := 7) (tgt := 20) dJ7_fill_53178_7 (by decide) (fun c1 => ?_) (fun c1 => ?_)
  · have h := h.1 c1
    exact x_endV (pc := 20) dJ7_fill_53178_20 rfl h
  · have h := h.2 c1
    refine x_aload_n (pc := 10) dJ7_fill_53178_10 0 rfl rfl ?_
    refine x_iload_n (pc := 11) dJ7_fill_53178_11 2 rfl rfl ?_
    refine x_iload_n (pc := 12) dJ7_fill_53178_12 1 rfl rfl ?_
    have n2 := h.1
    have h := h.2
    refine x_iast (pc := 13) r dJ7_fill_53178_13 hr.1 hr.2 n2 ?_
    refine x_iinc (pc := 14) (v := (a2 + 1)) dJ7_fill_53178_14 (k := 2) rfl rfl (by decide) rfl ?_
    refine x_goto (pc := 17) (tgt := 5) dJ7_fill_53178_17 (by decide) ?_
    exact x_sub [1, 2, 0, 3] rfl h
set_option maxRecDepth 100000 in
set_option maxHeartbeats 4000000 in
theorem t_X1_reset_0 {l : Launch} {G : Gx} {P : Mem → Prop} {f : Nat} (hf : Fo G f) (a1 : Int32) (mem : Mem)
    (h : ∃ Q1 : Mem → Prop, CtV l M_J7_fill_53178 G [.ref (gA G (f + 1)), .int 1] (wr mem f 0 (if (1 : Int32) < (if 12 < a1 then 12 else a1) then (if 12 < a1 then 12 else a1) else 1)) Q1 ∧ ∀ m4 : Mem, Q1 m4 → (XV l M_X1_reset G P m4 24 [(0, .ref (gA G f)), (2, .int 0)] [])) :
    XV l M_X1_reset G P mem 0 [(0, .ref (gA G f)), (1, .int a1)] [] := by
  refine x_aload_n (pc := 0) dX1_reset_0 0 rfl rfl ?_
  refine x_iconst (pc := 1) (v := 1) dX1_reset_1 (by decide) ?_
  refine x_iload_n (pc := 2) dX1_reset_2 1 rfl rfl ?_
  refine x_bipush (pc := 3) (v := 12) dX1_reset_3 (by decide) ?_
  refine x_mmin (pc := 5) dX1_reset_5 tb_88 tb_89 tb_59 tb_90 ⟨by decide, Nat.le_of_ble_eq_true rfl, by decide, by decide⟩ ?_
  refine x_mmax (pc := 8) dX1_reset_8 tb_91 tb_92 tb_59 tb_93 ⟨by decide, Nat.le_of_ble_eq_true rfl, by decide, by decide⟩ ?_
  refine x_put (pc := 11) f 0 dX1_reset_11 (Fo_K0 hf) (Fo_c0 hf) rfl inX1 tyX1 tyX1_ok nmX1 (by decide) tb_97 rfl rfl (by decide +kernel) (Nat.le_of_ble_eq_true rfl) rfl ?_
  refine x_aload_n (pc := 14) dX1_reset_14 0 rfl rfl ?_
  refine x_get (pc := 15) f 1 dX1_reset_15 (Fo_K0 hf) (Fo_c0 hf _) rfl inX1 (by decide) tb_98 rfl rfl ?_
  refine x_iconst (pc := 18) (v := 1) dX1_reset_18 (by decide) ?_
  obtain ⟨Q1, hc2, h⟩ := h
  refine x_callSV (pc := 19) hc2 ok_J7_fill_53178 dX1_reset_19 tb_94 ⟨⟨rfl, rfl⟩, ⟨by decide, by decide⟩, by decide, by decide⟩ rfl rfl (by decide) (fun m4 q5 => ?_)
  have h := h m4 q5
  refine x_iconst (pc := 22) (v := 0) dX1_reset_22 (by decide) ?_
  refine x_istore_n (pc := 23) dX1_reset_23 rfl (by decide) rfl ?_
  exact x_sub [1, 0] rfl h
set_option maxRecDepth 100000 in
set_option maxHeartbeats 4000000 in
theorem t_X1_reset_24 {l : Launch} {G : Gx} {P : Mem → Prop} {f : Nat} (hf : Fo G f) (a2 : Int32) (mem : Mem)
    (h : (12 ≤ a2 → (P mem)) ∧ (¬ 12 ≤ a2 → (vp_in a2 12 ∧ (∃ Q3 : Mem → Prop, CtV l M_J7_fill_53178 G [.ref (gA G (f + 3 + a2.toNatClampNeg)), .int 0] mem Q3 ∧ ∀ m6 : Mem, Q3 m6 → (XV l M_X1_reset G P m6 24 [(0, .ref (gA G f)), (2, .int (a2 + 1))] []))))) :
    XV l M_X1_reset G P mem 24 [(0, .ref (gA G f)), (2, .int a2)] [] := by
  refine x_iload_n (pc := 24) dX1_reset_24 1 rfl rfl ?_
  refine x_bipush (pc := 25) (v := 12) dX1_reset_25 (by decide) ?_
  refine x_icmp_ge (pc := 27) (tgt := 46) dX1_reset_27 (by decide) (fun c1 => ?_) (fun c1 => ?_)
  · have h := h.1 c1
    exact x_endV (pc := 46) dX1_reset_46 rfl h
  · have h := h.2 c1
    refine x_aload_n (pc := 30) dX1_reset_30 0 rfl rfl ?_
    refine x_get (pc := 31) f 2 dX1_reset_31 (Fo_K0 hf) (Fo_c0 hf _) rfl inX1 (by decide) tb_99 rfl rfl ?_
    refine x_iload_n (pc := 34) dX1_reset_34 1 rfl rfl ?_
    have n2 := h.1
    refine x_aaldR (pc := 35) (f + 2) dX1_reset_35 (Fo_K (i := 2) hf (by decide)) (Fo_c2 hf _) n2 (if_pos (vp_lt n2)) ?_
    have h := h.2
    refine x_iconst (pc := 36) (v := 0) dX1_reset_36 (by decide) ?_
    obtain ⟨Q3, hc4, h⟩ := h
    refine x_callSV (pc := 37) hc4 ok_J7_fill_53178 dX1_reset_37 tb_94 ⟨⟨rfl, rfl⟩, ⟨by decide, by decide⟩, by decide, by decide⟩ rfl rfl (by decide) (fun m6 q7 => ?_)
    have h := h m6 q7
    refine x_iinc (pc := 40) (v := (a2 + 1)) dX1_reset_40 (k := 1) rfl rfl (by decide) rfl ?_
    refine x_goto (pc := 43) (tgt := 24) dX1_reset_43 (by decide) ?_
    exact x_sub [1, 0] rfl h
set_option maxRecDepth 100000 in
set_option maxHeartbeats 4000000 in
theorem t_X1_become_0 {l : Launch} {G : Gx} {P : Mem → Prop} {f : Nat} (hf : Fo G f) {g : Nat} (hg : Fo G g)  (mem : Mem)
    (h : XV l M_X1_become G P (wrA (wr mem f 0 (mem g 0)) (f + 1) (va_cpy ((wr mem f 0 (mem g 0)) (g + 1)) ((wr mem f 0 (mem g 0)) (f + 1)) 0 0 12)) 25 [(0, .ref (gA G f)), (1, .ref (gA G g)), (2, .int 0)] []) :
    XV l M_X1_become G P mem 0 [(0, .ref (gA G f)), (1, .ref (gA G g))] [] := by
  refine x_aload_n (pc := 0) dX1_become_0 0 rfl rfl ?_
  refine x_aload_n (pc := 1) dX1_become_1 1 rfl rfl ?_
  refine x_get (pc := 2) g 0 dX1_become_2 (Fo_K0 hg) (Fo_c0 hg _) rfl inX1 (by decide) tb_97 rfl rfl ?_
  refine x_put (pc := 5) f 0 dX1_become_5 (Fo_K0 hf) (Fo_c0 hf) rfl inX1 tyX1 tyX1_ok nmX1 (by decide) tb_97 rfl rfl (by decide +kernel) (Nat.le_of_ble_eq_true rfl) rfl ?_
  refine x_aload_n (pc := 8) dX1_become_8 1 rfl rfl ?_
  refine x_get (pc := 9) g 1 dX1_become_9 (Fo_K0 hg) (Fo_c0 hg _) rfl inX1 (by decide) tb_98 rfl rfl ?_
  refine x_iconst (pc := 12) (v := 0) dX1_become_12 (by decide) ?_
  refine x_aload_n (pc := 13) dX1_become_13 0 rfl rfl ?_
  refine x_get (pc := 14) f 1 dX1_become_14 (Fo_K0 hf) (Fo_c0 hf _) rfl inX1 (by decide) tb_98 rfl rfl ?_
  refine x_iconst (pc := 17) (v := 0) dX1_become_17 (by decide) ?_
  refine x_bipush (pc := 18) (v := 12) dX1_become_18 (by decide) ?_
  refine x_copy (pc := 20) (n0 := 12) (n1 := 12) (g + 1) (f + 1) dX1_become_20 tb_327 tb_329 tb_328 tb_67 (Fo_K (i := 1) hg (by decide)) (Fo_K (i := 1) hf (by decide)) (Fo_c1 hg _) (Fo_c1 hf) (by decide) ⟨by decide, Nat.le_of_ble_eq_true rfl⟩ ?_
  refine x_iconst (pc := 23) (v := 0) dX1_become_23 (by decide) ?_
  refine x_istore_n (pc := 24) dX1_become_24 rfl (by decide) rfl ?_
  exact x_sub [1, 2, 0] rfl h
set_option maxRecDepth 100000 in
set_option maxHeartbeats 4000000 in
theorem t_X1_become_25 {l : Launch} {G : Gx} {P : Mem → Prop} {f : Nat} (hf : Fo G f) {g : Nat} (hg : Fo G g) (a2 : Int32) (mem : Mem)
    (h : (12 ≤ a2 → (P mem)) ∧ (¬ 12 ≤ a2 → (vp_in a2 12 ∧ (vp_in a2 12 ∧ (XV l M_X1_become G P (wrA mem (f + 3 + a2.toNatClampNeg) (va_cpy (mem (g + 3 + a2.toNatClampNeg)) (mem (f + 3 + a2.toNatClampNeg)) 0 0 12)) 25 [(0, .ref (gA G f)), (1, .ref (gA G g)), (2, .int (a2 + 1))] []))))) :
    XV l M_X1_become G P mem 25 [(0, .ref (gA G f)), (1, .ref (gA G g)), (2, .int a2)] [] := by
  refine x_iload_n (pc := 25) dX1_become_25 2 rfl rfl ?_
  refine x_bipush (pc := 26) (v := 12) dX1_become_26 (by decide) ?_
  refine x_icmp_ge (pc := 28) (tgt := 56) dX1_become_28 (by decide) (fun c1 => ?_) (fun c1 => ?_)
  · have h := h.1 c1
    exact x_endV (pc := 56) dX1_become_56 rfl h
  · have h := h.2 c1
    refine x_aload_n (pc := 31) dX1_become_31 1 rfl rfl ?_
    refine x_get (pc := 32) g 2 dX1_become_32 (Fo_K0 hg) (Fo_c0 hg _) rfl inX1 (by decide) tb_99 rfl rfl ?_
    refine x_iload_n (pc := 35) dX1_become_35 2 rfl rfl ?_
    have n2 := h.1
    refine x_aaldR (pc := 36) (g + 2) dX1_become_36 (Fo_K (i := 2) hg (by decide)) (Fo_c2 hg _) n2 (if_pos (vp_lt n2)) ?_
    have h := h.2
    refine x_iconst (pc := 37) (v := 0) dX1_become_37 (by decide) ?_
    refine x_aload_n (pc := 38) dX1_become_38 0 rfl rfl ?_
    refine x_get (pc := 39) f 2 dX1_become_39 (Fo_K0 hf) (Fo_c0 hf _) rfl inX1 (by decide) tb_99 rfl rfl ?_
    refine x_iload_n (pc := 42) dX1_become_42 2 rfl rfl ?_
    have n3 := h.1
    refine x_aaldR (pc := 43) (f + 2) dX1_become_43 (Fo_K (i := 2) hf (by decide)) (Fo_c2 hf _) n3 (if_pos (vp_lt n3)) ?_
    have h := h.2
    refine x_iconst (pc := 44) (v := 0) dX1_become_44 (by decide) ?_
    refine x_bipush (pc := 45) (v := 12) dX1_become_45 (by decide) ?_
    refine x_copy (pc := 47) (n0 := 12) (n1 := 12) (g + 3 + a2.toNatClampNeg) (f + 3 + a2.toNatClampNeg) dX1_become_47 tb_327 tb_329 tb_328 tb_67 (Fo_K3 hg (vp_lt n2)) (Fo_K3 hf (vp_lt n3)) (Fo_c3 hg (vp_lt n2) _) (Fo_c3 hf (vp_lt n3)) (by decide) ⟨by decide, Nat.le_of_ble_eq_true rfl⟩ ?_
    refine x_iinc (pc := 50) (v := (a2 + 1)) dX1_become_50 (k := 2) rfl rfl (by decide) rfl ?_
    refine x_goto (pc := 53) (tgt := 25) dX1_become_53 (by decide) ?_
    exact x_sub [1, 2, 0] rfl h
set_option maxRecDepth 100000 in
set_option maxHeartbeats 4000000 in
theorem t_X1_vertices_0 {l : Launch} {G : Gx} {P : Int32 → Mem → Prop} {f : Nat} (hf : Fo G f)  (mem : Mem)
    (h : P (mem f 0) mem) :
    XI l M_X1_vertices G P mem 0 [(0, .ref (gA G f))] [] := by
  refine x_aload_n (pc := 0) dX1_vertices_0 0 rfl rfl ?_
  refine x_get (pc := 1) f 0 dX1_vertices_1 (Fo_K0 hf) (Fo_c0 hf _) rfl inX1 (by decide) tb_97 rfl rfl ?_
  exact x_endI (pc := 4) dX1_vertices_4 rfl h
set_option maxRecDepth 100000 in
set_option maxHeartbeats 4000000 in
theorem t_X1_hasVertex_0 {l : Launch} {G : Gx} {P : Int32 → Mem → Prop} {f : Nat} (hf : Fo G f) (a1 : Int32) (mem : Mem)
    (h : (a1 < 0 → (P 0 mem)) ∧ (¬ a1 < 0 → (((mem f 0) ≤ a1 → (P 0 mem)) ∧ (¬ (mem f 0) ≤ a1 → (P 1 mem))))) :
    XI l M_X1_hasVertex G P mem 0 [(0, .ref (gA G f)), (1, .int a1)] [] := by
  refine x_iload_n (pc := 0) dX1_hasVertex_0 1 rfl rfl ?_
  refine x_if_lt (pc := 1) (tgt := 16) dX1_hasVertex_1 (by decide) (fun c1 => ?_) (fun c1 => ?_)
  · have h := h.1 c1
    refine x_iconst (pc := 16) (v := 0) dX1_hasVertex_16 (by decide) ?_
    exact x_endZ (pc := 17) dX1_hasVertex_17 rfl (Or.inl rfl) h
  · have h := h.2 c1
    refine x_iload_n (pc := 4) dX1_hasVertex_4 1 rfl rfl ?_
    refine x_aload_n (pc := 5) dX1_hasVertex_5 0 rfl rfl ?_
    refine x_get (pc := 6) f 0 dX1_hasVertex_6 (Fo_K0 hf) (Fo_c0 hf _) rfl inX1 (by decide) tb_97 rfl rfl ?_
    refine x_icmp_ge (pc := 9) (tgt := 16) dX1_hasVertex_9 (by decide) (fun c2 => ?_) (fun c2 => ?_)
    · have h := h.1 c2
      refine x_iconst (pc := 16) (v := 0) dX1_hasVertex_16 (by decide) ?_
      exact x_endZ (pc := 17) dX1_hasVertex_17 rfl (Or.inl rfl) h
    · have h := h.2 c2
      refine x_iconst (pc := 12) (v := 1) dX1_hasVertex_12 (by decide) ?_
      refine x_goto (pc := 13) (tgt := 17) dX1_hasVertex_13 (by decide) ?_
      exact x_endZ (pc := 17) dX1_hasVertex_17 rfl (Or.inr rfl) h
set_option maxRecDepth 100000 in
set_option maxHeartbeats 4000000 in
theorem t_X1_hasVertices_0 {l : Launch} {G : Gx} {P : Int32 → Mem → Prop} {f : Nat} (hf : Fo G f) (a1 : Int32) (a2 : Int32) (mem : Mem)
    (h : (a1 < 0 → (P 0 mem)) ∧ (¬ a1 < 0 → (((mem f 0) ≤ a1 → (P 0 mem)) ∧ (¬ (mem f 0) ≤ a1 → ((a2 < 0 → (P 0 mem)) ∧ (¬ a2 < 0 → (((mem f 0) ≤ a2 → (P 0 mem)) ∧ (¬ (mem f 0) ≤ a2 → (P 1 mem))))))))) :
    XI l M_X1_hasVertices G P mem 0 [(0, .ref (gA G f)), (1, .int a1), (2, .int a2)] [] := by
  refine x_iload_n (pc := 0) dX1_hasVertices_0 1 rfl rfl ?_
  refine x_if_lt (pc := 1) (tgt := 28) dX1_hasVertices_1 (by decide) (fun c1 => ?_) (fun c1 => ?_)
  · have h := h.1 c1
    refine x_iconst (pc := 28) (v := 0) dX1_hasVertices_28 (by decide) ?_
    exact x_endZ (pc := 29) dX1_hasVertices_29 rfl (Or.inl rfl) h
  · have h := h.2 c1
    refine x_iload_n (pc := 4) dX1_hasVertices_4 1 rfl rfl ?_
    refine x_aload_n (pc := 5) dX1_hasVertices_5 0 rfl rfl ?_
    refine x_get (pc := 6) f 0 dX1_hasVertices_6 (Fo_K0 hf) (Fo_c0 hf _) rfl inX1 (by decide) tb_97 rfl rfl ?_
    refine x_icmp_ge (pc := 9) (tgt := 28) dX1_hasVertices_9 (by decide) (fun c2 => ?_) (fun c2 => ?_)
    · have h := h.1 c2
      refine x_iconst (pc := 28) (v := 0) dX1_hasVertices_28 (by decide) ?_
      exact x_endZ (pc := 29) dX1_hasVertices_29 rfl (Or.inl rfl) h
    · have h := h.2 c2
      refine x_iload_n (pc := 12) dX1_hasVertices_12 2 rfl rfl ?_
      refine x_if_lt (pc := 13) (tgt := 28) dX1_hasVertices_13 (by decide) (fun c3 => ?_) (fun c3 => ?_)
      · have h := h.1 c3
        refine x_iconst (pc := 28) (v := 0) dX1_hasVertices_28 (by decide) ?_
        exact x_endZ (pc := 29) dX1_hasVertices_29 rfl (Or.inl rfl) h
      · have h := h.2 c3
        refine x_iload_n (pc := 16) dX1_hasVertices_16 2 rfl rfl ?_
        refine x_aload_n (pc := 17) dX1_hasVertices_17 0 rfl rfl ?_
        refine x_get (pc := 18) f 0 dX1_hasVertices_18 (Fo_K0 hf) (Fo_c0 hf _) rfl inX1 (by decide) tb_97 rfl rfl ?_
        refine x_icmp_ge (pc := 21) (tgt := 28) dX1_hasVertices_21 (by decide) (fun c4 => ?_) (fun c4 => ?_)
        · have h := h.1 c4
          refine x_iconst (pc := 28) (v := 0) dX1_hasVertices_28 (by decide) ?_
          exact x_endZ (pc := 29) dX1_hasVertices_29 rfl (Or.inl rfl) h
        · have h := h.2 c4
          refine x_iconst (pc := 24) (v := 1) dX1_hasVertices_24 (by decide) ?_
          refine x_goto (pc := 25) (tgt := 29) dX1_hasVertices_25 (by decide) ?_
          exact x_endZ (pc := 29) dX1_hasVertices_29 rfl (Or.inr rfl) h
set_option maxRecDepth 100000 in
set_option maxHeartbeats 4000000 in
theorem t_X1_weightOf_0 {l : Launch} {G : Gx} {P : Int32 → Mem → Prop} {f : Nat} (hf : Fo G f) (a1 : Int32) (mem : Mem)
    (h : ∃ Q1 : Int32 → Mem → Prop, CtI l M_X1_hasVertex G [.ref (gA G f), .int a1] mem Q1 ∧ ∀ (r3 : Int32) (m4 : Mem), Q1 r3 m4 → ((r3 = 0 → (P 0 m4)) ∧ (¬ r3 = 0 → (vp_in a1 12 ∧ (P (m4 (f + 1) a1.toNatClampNeg) m4))))) :
    XI l M_X1_weightOf G P mem 0 [(0, .ref (gA G f)), (1, .int a1)] [] := by
  refine x_aload_n (pc := 0) dX1_weightOf_0 0 rfl rfl ?_
  refine x_iload_n (pc := 1) dX1_weightOf_1 1 rfl rfl ?_
  obtain ⟨Q1, hc2, h⟩ := h
  refine x_callVI (pc := 2) f hc2 ok_X1_hasVertex dX1_weightOf_2 tb_295 ⟨⟨rfl, rfl⟩, ⟨by decide, by decide⟩, by decide, by decide⟩ (Fo_K0 hf) (Fo_c0 hf _) rfl (As := [.int a1]) rfl rfl (by decide) (fun r3 m4 q5 => ?_)
  have h := h r3 m4 q5
  refine x_if_eq (pc := 5) (tgt := 17) dX1_weightOf_5 (by decide) (fun c6 => ?_) (fun c6 => ?_)
  · have h := h.1 c6
    refine x_iconst (pc := 17) (v := 0) dX1_weightOf_17 (by decide) ?_
    exact x_endI (pc := 18) dX1_weightOf_18 rfl h
  · have h := h.2 c6
    refine x_aload_n (pc := 8) dX1_weightOf_8 0 rfl rfl ?_
    refine x_get (pc := 9) f 1 dX1_weightOf_9 (Fo_K0 hf) (Fo_c0 hf _) rfl inX1 (by decide) tb_98 rfl rfl ?_
    refine x_iload_n (pc := 12) dX1_weightOf_12 1 rfl rfl ?_
    have n7 := h.1
    refine x_iald (pc := 13) (f + 1) dX1_weightOf_13 (Fo_K (i := 1) hf (by decide)) (Fo_c1 hf _) n7 ?_
    have h := h.2
    refine x_goto (pc := 14) (tgt := 18) dX1_weightOf_14 (by decide) ?_
    exact x_endI (pc := 18) dX1_weightOf_18 rfl h
set_option maxRecDepth 100000 in
set_option maxHeartbeats 4000000 in
theorem t_X1_putWeight_0 {l : Launch} {G : Gx} {P : Mem → Prop} {f : Nat} (hf : Fo G f) (a1 : Int32) (a2 : Int32) (mem : Mem)
    (h : ∃ Q1 : Int32 → Mem → Prop, CtI l M_X1_hasVertex G [.ref (gA G f), .int a1] mem Q1 ∧ ∀ (r3 : Int32) (m4 : Mem), Q1 r3 m4 → ((r3 = 0 → (P m4)) ∧ (¬ r3 = 0 → (vp_in a1 12 ∧ (P (wr m4 (f + 1) a1.toNatClampNeg a2)))))) :
    XV l M_X1_putWeight G P mem 0 [(0, .ref (gA G f)), (1, .int a1), (2, .int a2)] [] := by
  refine x_aload_n (pc := 0) dX1_putWeight_0 0 rfl rfl ?_
  refine x_iload_n (pc := 1) dX1_putWeight_1 1 rfl rfl ?_
  obtain ⟨Q1, hc2, h⟩ := h
  refine x_callVI (pc := 2) f hc2 ok_X1_hasVertex dX1_putWeight_2 tb_295 ⟨⟨rfl, rfl⟩, ⟨by decide, by decide⟩, by decide, by decide⟩ (Fo_K0 hf) (Fo_c0 hf _) rfl (As := [.int a1]) rfl rfl (by decide) (fun r3 m4 q5 => ?_)
  have h := h r3 m4 q5
  refine x_if_eq (pc := 5) (tgt := 15) dX1_putWeight_5 (by decide) (fun c6 => ?_) (fun c6 => ?_)
  · have h := h.1 c6
    exact x_endV (pc := 15) dX1_putWeight_15 rfl h
  · have h := h.2 c6
    refine x_aload_n (pc := 8) dX1_putWeight_8 0 rfl rfl ?_
    refine x_get (pc := 9) f 1 dX1_putWeight_9 (Fo_K0 hf) (Fo_c0 hf _) rfl inX1 (by decide) tb_98 rfl rfl ?_
    refine x_iload_n (pc := 12) dX1_putWeight_12 1 rfl rfl ?_
    refine x_iload_n (pc := 13) dX1_putWeight_13 2 rfl rfl ?_
    have n7 := h.1
    have h := h.2
    refine x_iast (pc := 14) (f + 1) dX1_putWeight_14 (Fo_K (i := 1) hf (by decide)) (Fo_c1 hf) n7 ?_
    exact x_endV (pc := 15) dX1_putWeight_15 rfl h
set_option maxRecDepth 100000 in
set_option maxHeartbeats 4000000 in
theorem t_X1_hasEdge_0 {l : Launch} {G : Gx} {P : Int32 → Mem → Prop} {f : Nat} (hf : Fo G f) (a1 : Int32) (a2 : Int32) (mem : Mem)
    (h : ∃ Q1 : Int32 → Mem → Prop, CtI l M_X1_edgeBetween G [.ref (gA G f), .int a1, .int a2] mem Q1 ∧ ∀ (r3 : Int32) (m4 : Mem), Q1 r3 m4 → ((r3 = 0 → (P 0 m4)) ∧ (¬ r3 = 0 → (P 1 m4)))) :
    XI l M_X1_hasEdge G P mem 0 [(0, .ref (gA G f)), (1, .int a1), (2, .int a2)] [] := by
  refine x_aload_n (pc := 0) dX1_hasEdge_0 0 rfl rfl ?_
  refine x_iload_n (pc := 1) dX1_hasEdge_1 1 rfl rfl ?_
  refine x_iload_n (pc := 2) dX1_hasEdge_2 2 rfl rfl ?_
  obtain ⟨Q1, hc2, h⟩ := h
  refine x_callVI (pc := 3) f hc2 ok_X1_edgeBetween dX1_hasEdge_3 tb_346 ⟨⟨rfl, rfl⟩, ⟨by decide, by decide⟩, by decide, by decide⟩ (Fo_K0 hf) (Fo_c0 hf _) rfl (As := [.int a1, .int a2]) rfl rfl (by decide) (fun r3 m4 q5 => ?_)
  have h := h r3 m4 q5
  refine x_if_eq (pc := 6) (tgt := 13) dX1_hasEdge_6 (by decide) (fun c6 => ?_) (fun c6 => ?_)
  · have h := h.1 c6
    refine x_iconst (pc := 13) (v := 0) dX1_hasEdge_13 (by decide) ?_
    exact x_endZ (pc := 14) dX1_hasEdge_14 rfl (Or.inl rfl) h
  · have h := h.2 c6
    refine x_iconst (pc := 9) (v := 1) dX1_hasEdge_9 (by decide) ?_
    refine x_goto (pc := 10) (tgt := 14) dX1_hasEdge_10 (by decide) ?_
    exact x_endZ (pc := 14) dX1_hasEdge_14 rfl (Or.inr rfl) h
set_option maxRecDepth 100000 in
set_option maxHeartbeats 4000000 in
theorem t_X1_edgeBetween_0 {l : Launch} {G : Gx} {P : Int32 → Mem → Prop} {f : Nat} (hf : Fo G f) (a1 : Int32) (a2 : Int32) (mem : Mem)
    (h : ∃ Q1 : Int32 → Mem → Prop, CtI l M_X1_hasVertices G [.ref (gA G f), .int a1, .int a2] mem Q1 ∧ ∀ (r3 : Int32) (m4 : Mem), Q1 r3 m4 → ((r3 = 0 → (P 0 m4)) ∧ (¬ r3 = 0 → (vp_in a1 12 ∧ (vp_in a2 12 ∧ (P (m4 (f + 3 + a1.toNatClampNeg) a2.toNatClampNeg) m4)))))) :
    XI l M_X1_edgeBetween G P mem 0 [(0, .ref (gA G f)), (1, .int a1), (2, .int a2)] [] := by
  refine x_aload_n (pc := 0) dX1_edgeBetween_0 0 rfl rfl ?_
  refine x_iload_n (pc := 1) dX1_edgeBetween_1 1 rfl rfl ?_
  refine x_iload_n (pc := 2) dX1_edgeBetween_2 2 rfl rfl ?_
  obtain ⟨Q1, hc2, h⟩ := h
  refine x_callVI (pc := 3) f hc2 ok_X1_hasVertices dX1_edgeBetween_3 tb_311 ⟨⟨rfl, rfl⟩, ⟨by decide, by decide⟩, by decide, by decide⟩ (Fo_K0 hf) (Fo_c0 hf _) rfl (As := [.int a1, .int a2]) rfl rfl (by decide) (fun r3 m4 q5 => ?_)
  have h := h r3 m4 q5
  refine x_if_eq (pc := 6) (tgt := 20) dX1_edgeBetween_6 (by decide) (fun c6 => ?_) (fun c6 => ?_)
  · have h := h.1 c6
    refine x_iconst (pc := 20) (v := 0) dX1_edgeBetween_20 (by decide) ?_
    exact x_endI (pc := 21) dX1_edgeBetween_21 rfl h
  · have h := h.2 c6
    refine x_aload_n (pc := 9) dX1_edgeBetween_9 0 rfl rfl ?_
    refine x_get (pc := 10) f 2 dX1_edgeBetween_10 (Fo_K0 hf) (Fo_c0 hf _) rfl inX1 (by decide) tb_99 rfl rfl ?_
    refine x_iload_n (pc := 13) dX1_edgeBetween_13 1 rfl rfl ?_
    have n7 := h.1
    refine x_aaldR (pc := 14) (f + 2) dX1_edgeBetween_14 (Fo_K (i := 2) hf (by decide)) (Fo_c2 hf _) n7 (if_pos (vp_lt n7)) ?_
    have h := h.2
    refine x_iload_n (pc := 15) dX1_edgeBetween_15 2 rfl rfl ?_
    have n8 := h.1
    refine x_iald (pc := 16) (f + 3 + a1.toNatClampNeg) dX1_edgeBetween_16 (Fo_K3 hf (vp_lt n7)) (Fo_c3 hf (vp_lt n7) _) n8 ?_
    have h := h.2
    refine x_goto (pc := 17) (tgt := 21) dX1_edgeBetween_17 (by decide) ?_
    exact x_endI (pc := 21) dX1_edgeBetween_21 rfl h
set_option maxRecDepth 100000 in
set_option maxHeartbeats 4000000 in
theorem t_X1_putEdge_0 {l : Launch} {G : Gx} {P : Mem → Prop} {f : Nat} (hf : Fo G f) (a1 : Int32) (a2 : Int32) (a3 : Int32) (mem : Mem)
    (h : ∃ Q1 : Int32 → Mem → Prop, CtI l M_X1_hasVertices G [.ref (gA G f), .int a1, .int a2] mem Q1 ∧ ∀ (r3 : Int32) (m4 : Mem), Q1 r3 m4 → ((r3 = 0 → (P m4)) ∧ (¬ r3 = 0 → (vp_in a1 12 ∧ (vp_in a2 12 ∧ (vp_in a2 12 ∧ (vp_in a1 12 ∧ (P (wr (wr m4 (f + 3 + a1.toNatClampNeg) a2.toNatClampNeg a3) (f + 3 + a2.toNatClampNeg) a1.toNatClampNeg a3))))))))) :
    XV l M_X1_putEdge G P mem 0 [(0, .ref (gA G f)), (1, .int a1), (2, .int a2), (3, .int a3)] [] := by
  refine x_aload_n (pc := 0) dX1_putEdge_0 0 rfl rfl ?_
  refine x_iload_n (pc := 1) dX1_putEdge_1 1 rfl rfl ?_
  refine x_iload_n (pc := 2) dX1_putEdge_2 2 rfl rfl ?_
  obtain ⟨Q1, hc2, h⟩ := h
  refine x_callVI (pc := 3) f hc2 ok_X1_hasVertices dX1_putEdge_3 tb_311 ⟨⟨rfl, rfl⟩, ⟨by decide, by decide⟩, by decide, by decide⟩ (Fo_K0 hf) (Fo_c0 hf _) rfl (As := [.int a1, .int a2]) rfl rfl (by decide) (fun r3 m4 q5 => ?_)
  have h := h r3 m4 q5
  refine x_if_eq (pc := 6) (tgt := 27) dX1_putEdge_6 (by decide) (fun c6 => ?_) (fun c6 => ?_)
  · have h := h.1 c6
    exact x_endV (pc := 27) dX1_putEdge_27 rfl h
  · have h := h.2 c6
    refine x_aload_n (pc := 9) dX1_putEdge_9 0 rfl rfl ?_
    refine x_get (pc := 10) f 2 dX1_putEdge_10 (Fo_K0 hf) (Fo_c0 hf _) rfl inX1 (by decide) tb_99 rfl rfl ?_
    refine x_iload_n (pc := 13) dX1_putEdge_13 1 rfl rfl ?_
    have n7 := h.1
    refine x_aaldR (pc := 14) (f + 2) dX1_putEdge_14 (Fo_K (i := 2) hf (by decide)) (Fo_c2 hf _) n7 (if_pos (vp_lt n7)) ?_
    have h := h.2
    refine x_iload_n (pc := 15) dX1_putEdge_15 2 rfl rfl ?_
    refine x_iload_n (pc := 16) dX1_putEdge_16 3 rfl rfl ?_
    have n8 := h.1
    have h := h.2
    refine x_iast (pc := 17) (f + 3 + a1.toNatClampNeg) dX1_putEdge_17 (Fo_K3 hf (vp_lt n7)) (Fo_c3 hf (vp_lt n7)) n8 ?_
    refine x_aload_n (pc := 18) dX1_putEdge_18 0 rfl rfl ?_
    refine x_get (pc := 19) f 2 dX1_putEdge_19 (Fo_K0 hf) (Fo_c0 hf _) rfl inX1 (by decide) tb_99 rfl rfl ?_
    refine x_iload_n (pc := 22) dX1_putEdge_22 2 rfl rfl ?_
    have n9 := h.1
    refine x_aaldR (pc := 23) (f + 2) dX1_putEdge_23 (Fo_K (i := 2) hf (by decide)) (Fo_c2 hf _) n9 (if_pos (vp_lt n9)) ?_
    have h := h.2
    refine x_iload_n (pc := 24) dX1_putEdge_24 1 rfl rfl ?_
    refine x_iload_n (pc := 25) dX1_putEdge_25 3 rfl rfl ?_
    have n10 := h.1
    have h := h.2
    refine x_iast (pc := 26) (f + 3 + a2.toNatClampNeg) dX1_putEdge_26 (Fo_K3 hf (vp_lt n9)) (Fo_c3 hf (vp_lt n9)) n10 ?_
    exact x_endV (pc := 27) dX1_putEdge_27 rfl h
set_option maxRecDepth 100000 in
set_option maxHeartbeats 4000000 in
theorem t_X1_edgeCount_0 {l : Launch} {G : Gx} {P : Int32 → Mem → Prop} {f : Nat} (hf : Fo G f)  (mem : Mem)
    (h : XI l M_X1_edgeCount G P mem 4 [(0, .ref (gA G f)), (1, .int 0), (2, .int 0)] []) :
    XI l M_X1_edgeCount G P mem 0 [(0, .ref (gA G f))] [] := by
  refine x_iconst (pc := 0) (v := 0) dX1_edgeCount_0 (by decide) ?_
  refine x_istore_n (pc := 1) dX1_edgeCount_1 rfl (by decide) rfl ?_
  refine x_iconst (pc := 2) (v := 0) dX1_edgeCount_2 (by decide) ?_
  refine x_istore_n (pc := 3) dX1_edgeCount_3 rfl (by decide) rfl ?_
  exact x_sub [2, 1, 0] rfl h
set_option maxRecDepth 100000 in
set_option maxHeartbeats 4000000 in
theorem t_X1_edgeCount_4 {l : Launch} {G : Gx} {P : Int32 → Mem → Prop} {f : Nat} (hf : Fo G f) (a1 : Int32) (a2 : Int32) (mem : Mem)
    (h : ((mem f 0) ≤ a2 → (P a1 mem)) ∧ (¬ (mem f 0) ≤ a2 → (XI l M_X1_edgeCount G P mem 16 [(0, .ref (gA G f)), (1, .int a1), (2, .int a2), (3, .int (a2 + 1))] []))) :
    XI l M_X1_edgeCount G P mem 4 [(0, .ref (gA G f)), (1, .int a1), (2, .int a2)] [] := by
  refine x_iload_n (pc := 4) dX1_edgeCount_4 2 rfl rfl ?_
  refine x_aload_n (pc := 5) dX1_edgeCount_5 0 rfl rfl ?_
  refine x_get (pc := 6) f 0 dX1_edgeCount_6 (Fo_K0 hf) (Fo_c0 hf _) rfl inX1 (by decide) tb_97 rfl rfl ?_
  refine x_icmp_ge (pc := 9) (tgt := 48) dX1_edgeCount_9 (by decide) (fun c1 => ?_) (fun c1 => ?_)
  · have h := h.1 c1
    refine x_iload_n (pc := 48) dX1_edgeCount_48 1 rfl rfl ?_
    exact x_endI (pc := 49) dX1_edgeCount_49 rfl h
  · have h := h.2 c1
    refine x_iload_n (pc := 12) dX1_edgeCount_12 2 rfl rfl ?_
    refine x_iconst (pc := 13) (v := 1) dX1_edgeCount_13 (by decide) ?_
    refine x_iadd (pc := 14) dX1_edgeCount_14 ?_
    refine x_istore_n (pc := 15) dX1_edgeCount_15 rfl (by decide) rfl ?_
    exact x_sub [1, 2, 3, 0] rfl h
set_option maxRecDepth 100000 in
set_option maxHeartbeats 4000000 in
theorem t_X1_edgeCount_16 {l : Launch} {G : Gx} {P : Int32 → Mem → Prop} {f : Nat} (hf : Fo G f) (a1 : Int32) (a2 : Int32) (a3 : Int32) (mem : Mem)
    (h : ((mem f 0) ≤ a3 → (XI l M_X1_edgeCount G P mem 4 [(0, .ref (gA G f)), (1, .int a1), (2, .int (a2 + 1))] [])) ∧ (¬ (mem f 0) ≤ a3 → (∃ Q2 : Int32 → Mem → Prop, CtI l M_X1_hasEdge G [.ref (gA G f), .int a2, .int a3] mem Q2 ∧ ∀ (r4 : Int32) (m5 : Mem), Q2 r4 m5 → ((r4 = 0 → (XI l M_X1_edgeCount G P m5 16 [(0, .ref (gA G f)), (1, .int a1), (2, .int a2), (3, .int (a3 + 1))] [])) ∧ (¬ r4 = 0 → (XI l M_X1_edgeCount G P m5 16 [(0, .ref (gA G f)), (1, .int (a1 + 1)), (2, .int a2), (3, .int (a3 + 1))] [])))))) :
    XI l M_X1_edgeCount G P mem 16 [(0, .ref (gA G f)), (1, .int a1), (2, .int a2), (3, .int a3)] [] := by
  refine x_iload_n (pc := 16) dX1_edgeCount_16 3 rfl rfl ?_
  refine x_aload_n (pc := 17) dX1_edgeCount_17 0 rfl rfl ?_
  refine x_get (pc := 18) f 0 dX1_edgeCount_18 (Fo_K0 hf) (Fo_c0 hf _) rfl inX1 (by decide) tb_97 rfl rfl ?_
  refine x_icmp_ge (pc := 21) (tgt := 42) dX1_edgeCount_21 (by decide) (fun c1 => ?_) (fun c1 => ?_)
  · have h := h.1 c1
    refine x_iinc (pc := 42) (v := (a2 + 1)) dX1_edgeCount_42 (k := 2) rfl rfl (by decide) rfl ?_
    refine x_goto (pc := 45) (tgt := 4) dX1_edgeCount_45 (by decide) ?_
    exact x_sub [1, 2, 0] rfl h
  · have h := h.2 c1
    refine x_aload_n (pc := 24) dX1_edgeCount_24 0 rfl rfl ?_
    refine x_iload_n (pc := 25) dX1_edgeCount_25 2 rfl rfl ?_
    refine x_iload_n (pc := 26) dX1_edgeCount_26 3 rfl rfl ?_
    obtain ⟨Q2, hc3, h⟩ := h
    refine x_callVI (pc := 27) f hc3 ok_X1_hasEdge dX1_edgeCount_27 tb_342 ⟨⟨rfl, rfl⟩, ⟨by decide, by decide⟩, by decide, by decide⟩ (Fo_K0 hf) (Fo_c0 hf _) rfl (As := [.int a2, .int a3]) rfl rfl (by decide) (fun r4 m5 q6 => ?_)
    have h := h r4 m5 q6
    refine x_if_eq (pc := 30) (tgt := 36) dX1_edgeCount_30 (by decide) (fun c7 => ?_) (fun c7 => ?_)
    · have h := h.1 c7
      refine x_iinc (pc := 36) (v := (a3 + 1)) dX1_edgeCount_36 (k := 3) rfl rfl (by decide) rfl ?_
      refine x_goto (pc := 39) (tgt := 16) dX1_edgeCount_39 (by decide) ?_
      exact x_sub [1, 2, 3, 0] rfl h
    · have h := h.2 c7
      refine x_iinc (pc := 33) (v := (a1 + 1)) dX1_edgeCount_33 (k := 1) rfl rfl (by decide) rfl ?_
      refine x_iinc (pc := 36) (v := (a3 + 1)) dX1_edgeCount_36 (k := 3) rfl rfl (by decide) rfl ?_
      refine x_goto (pc := 39) (tgt := 16) dX1_edgeCount_39 (by decide) ?_
      exact x_sub [2, 1, 3, 0] rfl h
end
