section
-- ===== PART A: goes FIRST, ahead of the names: the tables' words, and 'selects' of the private methods out of them =====
/-- a private method of a class that the tables say can be made, by its rows of tables_1 -/
def lw_okq (q : MethodName × Nat) : Prop := (q.1.cls ≠ "java/lang/invoke/MethodHandle" ∧ q.1.cls ≠ "java/lang/invoke/VarHandle") ∧ Cond.instantiable q.1.cls q.2 ∈ tables_1 ∧ Cond.privateMethod q.1 ∈ tables_1 ∧ Cond.instanceMethod q.1 ∈ tables_1
theorem lw_p0 : lw_okq (⟨"WeightedForest$SetupText", "take", "(II)I"⟩, 4) := ⟨⟨by decide +kernel, by decide +kernel⟩, List.mem_of_getElem? (i := 100) (by decide +kernel), List.mem_of_getElem? (i := 219) (by decide +kernel), List.mem_of_getElem? (i := 220) (by decide +kernel)⟩
theorem lw_p1 : lw_okq (⟨"WeightedForest$SetupText", "takeNumber", "(II)I"⟩, 4) := ⟨⟨by decide +kernel, by decide +kernel⟩, List.mem_of_getElem? (i := 100) (by decide +kernel), List.mem_of_getElem? (i := 223) (by decide +kernel), List.mem_of_getElem? (i := 224) (by decide +kernel)⟩
theorem lw_p2 : lw_okq (⟨"WeightedForest$SetupText", "takeWeights", "(LWeightedForest$Forest;)Z"⟩, 4) := ⟨⟨by decide +kernel, by decide +kernel⟩, List.mem_of_getElem? (i := 100) (by decide +kernel), List.mem_of_getElem? (i := 228) (by decide +kernel), List.mem_of_getElem? (i := 229) (by decide +kernel)⟩
theorem lw_p3 : lw_okq (⟨"WeightedForest$SetupText", "takeEdges", "(LWeightedForest$Forest;)Z"⟩, 4) := ⟨⟨by decide +kernel, by decide +kernel⟩, List.mem_of_getElem? (i := 100) (by decide +kernel), List.mem_of_getElem? (i := 244) (by decide +kernel), List.mem_of_getElem? (i := 245) (by decide +kernel)⟩
theorem lw_p4 : lw_okq (⟨"WeightedForest$SetupText", "takeEdge", "(LWeightedForest$Forest;)Z"⟩, 4) := ⟨⟨by decide +kernel, by decide +kernel⟩, List.mem_of_getElem? (i := 100) (by decide +kernel), List.mem_of_getElem? (i := 248) (by decide +kernel), List.mem_of_getElem? (i := 249) (by decide +kernel)⟩
theorem lw_p5 : lw_okq (⟨"WeightedForest$SetupText", "joinTrees", "(II)V"⟩, 4) := ⟨⟨by decide +kernel, by decide +kernel⟩, List.mem_of_getElem? (i := 100) (by decide +kernel), List.mem_of_getElem? (i := 260) (by decide +kernel), List.mem_of_getElem? (i := 261) (by decide +kernel)⟩
theorem lw_p6 : lw_okq (⟨"WeightedForest", "emptySlots", "()V"⟩, 10) := ⟨⟨by decide +kernel, by decide +kernel⟩, List.mem_of_getElem? (i := 13) (by decide +kernel), List.mem_of_getElem? (i := 279) (by decide +kernel), List.mem_of_getElem? (i := 280) (by decide +kernel)⟩
theorem lw_p7 : lw_okq (⟨"WeightedForest$Survey", "extendOver", "(II)V"⟩, 3) := ⟨⟨by decide +kernel, by decide +kernel⟩, List.mem_of_getElem? (i := 53) (by decide +kernel), List.mem_of_getElem? (i := 322) (by decide +kernel), List.mem_of_getElem? (i := 323) (by decide +kernel)⟩
theorem lw_p8 : lw_okq (⟨"WeightedForest$Survey", "stepToward", "(II)I"⟩, 3) := ⟨⟨by decide +kernel, by decide +kernel⟩, List.mem_of_getElem? (i := 53) (by decide +kernel), List.mem_of_getElem? (i := 395) (by decide +kernel), List.mem_of_getElem? (i := 396) (by decide +kernel)⟩
theorem lw_p9 : lw_okq (⟨"WeightedForest$Survey", "onPath", "(III)Z"⟩, 3) := ⟨⟨by decide +kernel, by decide +kernel⟩, List.mem_of_getElem? (i := 53) (by decide +kernel), List.mem_of_getElem? (i := 466) (by decide +kernel), List.mem_of_getElem? (i := 467) (by decide +kernel)⟩
theorem lw_p10 : lw_okq (⟨"WeightedForest$Contraction", "copyEdges", "(LWeightedForest$Forest;)V"⟩, 7) := ⟨⟨by decide +kernel, by decide +kernel⟩, List.mem_of_getElem? (i := 70) (by decide +kernel), List.mem_of_getElem? (i := 478) (by decide +kernel), List.mem_of_getElem? (i := 479) (by decide +kernel)⟩
theorem lw_p11 : lw_okq (⟨"WeightedForest$Contraction", "gatherTree", "(I)V"⟩, 7) := ⟨⟨by decide +kernel, by decide +kernel⟩, List.mem_of_getElem? (i := 70) (by decide +kernel), List.mem_of_getElem? (i := 484) (by decide +kernel), List.mem_of_getElem? (i := 485) (by decide +kernel)⟩
theorem lw_p12 : lw_okq (⟨"WeightedForest$Contraction", "isVertex", "(I)Z"⟩, 7) := ⟨⟨by decide +kernel, by decide +kernel⟩, List.mem_of_getElem? (i := 70) (by decide +kernel), List.mem_of_getElem? (i := 488) (by decide +kernel), List.mem_of_getElem? (i := 489) (by decide +kernel)⟩
theorem lw_p13 : lw_okq (⟨"WeightedForest$Contraction", "gatherNeighbours", "()V"⟩, 7) := ⟨⟨by decide +kernel, by decide +kernel⟩, List.mem_of_getElem? (i := 70) (by decide +kernel), List.mem_of_getElem? (i := 492) (by decide +kernel), List.mem_of_getElem? (i := 493) (by decide +kernel)⟩
theorem lw_p14 : lw_okq (⟨"WeightedForest$Contraction", "rake", "()V"⟩, 7) := ⟨⟨by decide +kernel, by decide +kernel⟩, List.mem_of_getElem? (i := 70) (by decide +kernel), List.mem_of_getElem? (i := 496) (by decide +kernel), List.mem_of_getElem? (i := 497) (by decide +kernel)⟩
theorem lw_p15 : lw_okq (⟨"WeightedForest$Contraction", "removeGreatest", "()V"⟩, 7) := ⟨⟨by decide +kernel, by decide +kernel⟩, List.mem_of_getElem? (i := 70) (by decide +kernel), List.mem_of_getElem? (i := 500) (by decide +kernel), List.mem_of_getElem? (i := 501) (by decide +kernel)⟩
def lw_privs_1 : List (MethodName × Nat) := [(⟨"WeightedForest$SetupText", "take", "(II)I"⟩, 4), (⟨"WeightedForest$SetupText", "takeNumber", "(II)I"⟩, 4), (⟨"WeightedForest$SetupText", "takeWeights", "(LWeightedForest$Forest;)Z"⟩, 4), (⟨"WeightedForest$SetupText", "takeEdges", "(LWeightedForest$Forest;)Z"⟩, 4), (⟨"WeightedForest$SetupText", "takeEdge", "(LWeightedForest$Forest;)Z"⟩, 4), (⟨"WeightedForest$SetupText", "joinTrees", "(II)V"⟩, 4), (⟨"WeightedForest", "emptySlots", "()V"⟩, 10), (⟨"WeightedForest$Survey", "extendOver", "(II)V"⟩, 3), (⟨"WeightedForest$Survey", "stepToward", "(II)I"⟩, 3), (⟨"WeightedForest$Survey", "onPath", "(III)Z"⟩, 3), (⟨"WeightedForest$Contraction", "copyEdges", "(LWeightedForest$Forest;)V"⟩, 7), (⟨"WeightedForest$Contraction", "gatherTree", "(I)V"⟩, 7), (⟨"WeightedForest$Contraction", "isVertex", "(I)Z"⟩, 7), (⟨"WeightedForest$Contraction", "gatherNeighbours", "()V"⟩, 7), (⟨"WeightedForest$Contraction", "rake", "()V"⟩, 7), (⟨"WeightedForest$Contraction", "removeGreatest", "()V"⟩, 7)]
theorem lw_r1 : ∀ q ∈ lw_privs_1, lw_okq q := List.forall_mem_cons.mpr ⟨lw_p0, List.forall_mem_cons.mpr ⟨lw_p1, List.forall_mem_cons.mpr ⟨lw_p2, List.forall_mem_cons.mpr ⟨lw_p3, List.forall_mem_cons.mpr ⟨lw_p4, List.forall_mem_cons.mpr ⟨lw_p5, List.forall_mem_cons.mpr ⟨lw_p6, List.forall_mem_cons.mpr ⟨lw_p7, List.forall_mem_cons.mpr ⟨lw_p8, List.forall_mem_cons.mpr ⟨lw_p9, List.forall_mem_cons.mpr ⟨lw_p10, List.forall_mem_cons.mpr ⟨lw_p11, List.forall_mem_cons.mpr ⟨lw_p12, List.forall_mem_cons.mpr ⟨lw_p13, List.forall_mem_cons.mpr ⟨lw_p14, List.forall_mem_cons.mpr ⟨lw_p15, fun _ h => absurd h List.not_mem_nil⟩⟩⟩⟩⟩⟩⟩⟩⟩⟩⟩⟩⟩⟩⟩⟩
theorem lw_p16 : lw_okq (⟨"WeightedForest$Contraction", "remove", "(I)V"⟩, 7) := ⟨⟨by decide +kernel, by decide +kernel⟩, List.mem_of_getElem? (i := 70) (by decide +kernel), List.mem_of_getElem? (i := 504) (by decide +kernel), List.mem_of_getElem? (i := 505) (by decide +kernel)⟩
theorem lw_p17 : lw_okq (⟨"WeightedForest$Contraction", "degreeOf", "(I)I"⟩, 7) := ⟨⟨by decide +kernel, by decide +kernel⟩, List.mem_of_getElem? (i := 70) (by decide +kernel), List.mem_of_getElem? (i := 508) (by decide +kernel), List.mem_of_getElem? (i := 509) (by decide +kernel)⟩
theorem lw_p18 : lw_okq (⟨"WeightedForest$Contraction", "compress", "()V"⟩, 7) := ⟨⟨by decide +kernel, by decide +kernel⟩, List.mem_of_getElem? (i := 70) (by decide +kernel), List.mem_of_getElem? (i := 512) (by decide +kernel), List.mem_of_getElem? (i := 513) (by decide +kernel)⟩
theorem lw_p19 : lw_okq (⟨"WeightedForest$Contraction", "makeEdgesOld", "()V"⟩, 7) := ⟨⟨by decide +kernel, by decide +kernel⟩, List.mem_of_getElem? (i := 70) (by decide +kernel), List.mem_of_getElem? (i := 516) (by decide +kernel), List.mem_of_getElem? (i := 517) (by decide +kernel)⟩
theorem lw_p20 : lw_okq (⟨"WeightedForest$Contraction", "bypass", "(I)V"⟩, 7) := ⟨⟨by decide +kernel, by decide +kernel⟩, List.mem_of_getElem? (i := 70) (by decide +kernel), List.mem_of_getElem? (i := 521) (by decide +kernel), List.mem_of_getElem? (i := 522) (by decide +kernel)⟩
theorem lw_p21 : lw_okq (⟨"WeightedForest$Contraction", "neighbourAfter", "(II)I"⟩, 7) := ⟨⟨by decide +kernel, by decide +kernel⟩, List.mem_of_getElem? (i := 70) (by decide +kernel), List.mem_of_getElem? (i := 525) (by decide +kernel), List.mem_of_getElem? (i := 526) (by decide +kernel)⟩
theorem lw_p22 : lw_okq (⟨"WeightedForest$Survey", "heavierPart", "(II)I"⟩, 3) := ⟨⟨by decide +kernel, by decide +kernel⟩, List.mem_of_getElem? (i := 53) (by decide +kernel), List.mem_of_getElem? (i := 557) (by decide +kernel), List.mem_of_getElem? (i := 558) (by decide +kernel)⟩
theorem lw_p23 : lw_okq (⟨"WeightedForest$Survey", "chanceOfPath", "(III)J"⟩, 3) := ⟨⟨by decide +kernel, by decide +kernel⟩, List.mem_of_getElem? (i := 53) (by decide +kernel), List.mem_of_getElem? (i := 572) (by decide +kernel), List.mem_of_getElem? (i := 573) (by decide +kernel)⟩
theorem lw_p24 : lw_okq (⟨"WeightedForest", "obeys", "(I)Z"⟩, 10) := ⟨⟨by decide +kernel, by decide +kernel⟩, List.mem_of_getElem? (i := 13) (by decide +kernel), List.mem_of_getElem? (i := 611) (by decide +kernel), List.mem_of_getElem? (i := 612) (by decide +kernel)⟩
theorem lw_p25 : lw_okq (⟨"WeightedForest", "triesLink", "(II)Z"⟩, 10) := ⟨⟨by decide +kernel, by decide +kernel⟩, List.mem_of_getElem? (i := 13) (by decide +kernel), List.mem_of_getElem? (i := 615) (by decide +kernel), List.mem_of_getElem? (i := 616) (by decide +kernel)⟩
theorem lw_p26 : lw_okq (⟨"WeightedForest", "triesCut", "(II)Z"⟩, 10) := ⟨⟨by decide +kernel, by decide +kernel⟩, List.mem_of_getElem? (i := 13) (by decide +kernel), List.mem_of_getElem? (i := 619) (by decide +kernel), List.mem_of_getElem? (i := 620) (by decide +kernel)⟩
theorem lw_p27 : lw_okq (⟨"WeightedForest", "joinedInTrial", "(II)Z"⟩, 10) := ⟨⟨by decide +kernel, by decide +kernel⟩, List.mem_of_getElem? (i := 13) (by decide +kernel), List.mem_of_getElem? (i := 623) (by decide +kernel), List.mem_of_getElem? (i := 624) (by decide +kernel)⟩
theorem lw_p28 : lw_okq (⟨"WeightedForest", "leavesEarlier", "(II)Z"⟩, 10) := ⟨⟨by decide +kernel, by decide +kernel⟩, List.mem_of_getElem? (i := 13) (by decide +kernel), List.mem_of_getElem? (i := 627) (by decide +kernel), List.mem_of_getElem? (i := 628) (by decide +kernel)⟩
theorem lw_p29 : lw_okq (⟨"WeightedForest", "changeTrial", "(I)V"⟩, 10) := ⟨⟨by decide +kernel, by decide +kernel⟩, List.mem_of_getElem? (i := 13) (by decide +kernel), List.mem_of_getElem? (i := 637) (by decide +kernel), List.mem_of_getElem? (i := 638) (by decide +kernel)⟩
theorem lw_p30 : lw_okq (⟨"WeightedForestModel", "readText", "()I"⟩, 24) := ⟨⟨by decide +kernel, by decide +kernel⟩, List.mem_of_getElem? (i := 650) (by decide +kernel), List.mem_of_getElem? (i := 745) (by decide +kernel), List.mem_of_getElem? (i := 746) (by decide +kernel)⟩
theorem lw_p31 : lw_okq (⟨"WeightedForestModel", "number", "(II)I"⟩, 24) := ⟨⟨by decide +kernel, by decide +kernel⟩, List.mem_of_getElem? (i := 650) (by decide +kernel), List.mem_of_getElem? (i := 749) (by decide +kernel), List.mem_of_getElem? (i := 750) (by decide +kernel)⟩
def lw_privs_2 : List (MethodName × Nat) := [(⟨"WeightedForest$Contraction", "remove", "(I)V"⟩, 7), (⟨"WeightedForest$Contraction", "degreeOf", "(I)I"⟩, 7), (⟨"WeightedForest$Contraction", "compress", "()V"⟩, 7), (⟨"WeightedForest$Contraction", "makeEdgesOld", "()V"⟩, 7), (⟨"WeightedForest$Contraction", "bypass", "(I)V"⟩, 7), (⟨"WeightedForest$Contraction", "neighbourAfter", "(II)I"⟩, 7), (⟨"WeightedForest$Survey", "heavierPart", "(II)I"⟩, 3), (⟨"WeightedForest$Survey", "chanceOfPath", "(III)J"⟩, 3), (⟨"WeightedForest", "obeys", "(I)Z"⟩, 10), (⟨"WeightedForest", "triesLink", "(II)Z"⟩, 10), (⟨"WeightedForest", "triesCut", "(II)Z"⟩, 10), (⟨"WeightedForest", "joinedInTrial", "(II)Z"⟩, 10), (⟨"WeightedForest", "leavesEarlier", "(II)Z"⟩, 10), (⟨"WeightedForest", "changeTrial", "(I)V"⟩, 10), (⟨"WeightedForestModel", "readText", "()I"⟩, 24), (⟨"WeightedForestModel", "number", "(II)I"⟩, 24)]
theorem lw_r2 : ∀ q ∈ lw_privs_2, lw_okq q := List.forall_mem_cons.mpr ⟨lw_p16, List.forall_mem_cons.mpr ⟨lw_p17, List.forall_mem_cons.mpr ⟨lw_p18, List.forall_mem_cons.mpr ⟨lw_p19, List.forall_mem_cons.mpr ⟨lw_p20, List.forall_mem_cons.mpr ⟨lw_p21, List.forall_mem_cons.mpr ⟨lw_p22, List.forall_mem_cons.mpr ⟨lw_p23, List.forall_mem_cons.mpr ⟨lw_p24, List.forall_mem_cons.mpr ⟨lw_p25, List.forall_mem_cons.mpr ⟨lw_p26, List.forall_mem_cons.mpr ⟨lw_p27, List.forall_mem_cons.mpr ⟨lw_p28, List.forall_mem_cons.mpr ⟨lw_p29, List.forall_mem_cons.mpr ⟨lw_p30, List.forall_mem_cons.mpr ⟨lw_p31, fun _ h => absurd h List.not_mem_nil⟩⟩⟩⟩⟩⟩⟩⟩⟩⟩⟩⟩⟩⟩⟩⟩
theorem lw_p32 : lw_okq (⟨"WeightedForestModel", "sign", "(III)I"⟩, 24) := ⟨⟨by decide +kernel, by decide +kernel⟩, List.mem_of_getElem? (i := 650) (by decide +kernel), List.mem_of_getElem? (i := 753) (by decide +kernel), List.mem_of_getElem? (i := 754) (by decide +kernel)⟩
theorem lw_p33 : lw_okq (⟨"WeightedForestModel", "readEdge", "()Z"⟩, 24) := ⟨⟨by decide +kernel, by decide +kernel⟩, List.mem_of_getElem? (i := 650) (by decide +kernel), List.mem_of_getElem? (i := 757) (by decide +kernel), List.mem_of_getElem? (i := 758) (by decide +kernel)⟩
theorem lw_p34 : lw_okq (⟨"WeightedForestModel", "isOneTree", "([III)Z"⟩, 24) := ⟨⟨by decide +kernel, by decide +kernel⟩, List.mem_of_getElem? (i := 650) (by decide +kernel), List.mem_of_getElem? (i := 761) (by decide +kernel), List.mem_of_getElem? (i := 762) (by decide +kernel)⟩
theorem lw_p35 : lw_okq (⟨"WeightedForestModel", "farOf", "([III)I"⟩, 24) := ⟨⟨by decide +kernel, by decide +kernel⟩, List.mem_of_getElem? (i := 650) (by decide +kernel), List.mem_of_getElem? (i := 765) (by decide +kernel), List.mem_of_getElem? (i := 766) (by decide +kernel)⟩
theorem lw_p36 : lw_okq (⟨"WeightedForestModel", "layFar", "([II)V"⟩, 24) := ⟨⟨by decide +kernel, by decide +kernel⟩, List.mem_of_getElem? (i := 650) (by decide +kernel), List.mem_of_getElem? (i := 769) (by decide +kernel), List.mem_of_getElem? (i := 770) (by decide +kernel)⟩
theorem lw_p37 : lw_okq (⟨"WeightedForestModel", "isVertex", "(I)Z"⟩, 24) := ⟨⟨by decide +kernel, by decide +kernel⟩, List.mem_of_getElem? (i := 650) (by decide +kernel), List.mem_of_getElem? (i := 793) (by decide +kernel), List.mem_of_getElem? (i := 794) (by decide +kernel)⟩
theorem lw_p38 : lw_okq (⟨"WeightedForestModel", "linkError", "([IIII)I"⟩, 24) := ⟨⟨by decide +kernel, by decide +kernel⟩, List.mem_of_getElem? (i := 650) (by decide +kernel), List.mem_of_getElem? (i := 809) (by decide +kernel), List.mem_of_getElem? (i := 810) (by decide +kernel)⟩
theorem lw_p39 : lw_okq (⟨"WeightedForestModel", "note", "()V"⟩, 24) := ⟨⟨by decide +kernel, by decide +kernel⟩, List.mem_of_getElem? (i := 650) (by decide +kernel), List.mem_of_getElem? (i := 814) (by decide +kernel), List.mem_of_getElem? (i := 815) (by decide +kernel)⟩
theorem lw_p40 : lw_okq (⟨"WeightedForestModel", "edgeError", "([IIII)I"⟩, 24) := ⟨⟨by decide +kernel, by decide +kernel⟩, List.mem_of_getElem? (i := 650) (by decide +kernel), List.mem_of_getElem? (i := 822) (by decide +kernel), List.mem_of_getElem? (i := 823) (by decide +kernel)⟩
theorem lw_p41 : lw_okq (⟨"WeightedForestModel", "eccentricityOf", "([II)I"⟩, 24) := ⟨⟨by decide +kernel, by decide +kernel⟩, List.mem_of_getElem? (i := 650) (by decide +kernel), List.mem_of_getElem? (i := 850) (by decide +kernel), List.mem_of_getElem? (i := 851) (by decide +kernel)⟩
theorem lw_p42 : lw_okq (⟨"WeightedForestModel", "diameterOf", "([II)I"⟩, 24) := ⟨⟨by decide +kernel, by decide +kernel⟩, List.mem_of_getElem? (i := 650) (by decide +kernel), List.mem_of_getElem? (i := 858) (by decide +kernel), List.mem_of_getElem? (i := 859) (by decide +kernel)⟩
theorem lw_p43 : lw_okq (⟨"WeightedForestModel", "leastOf", "([IIZ)I"⟩, 24) := ⟨⟨by decide +kernel, by decide +kernel⟩, List.mem_of_getElem? (i := 650) (by decide +kernel), List.mem_of_getElem? (i := 870) (by decide +kernel), List.mem_of_getElem? (i := 871) (by decide +kernel)⟩
theorem lw_p44 : lw_okq (⟨"WeightedForestModel", "costOf", "([II)I"⟩, 24) := ⟨⟨by decide +kernel, by decide +kernel⟩, List.mem_of_getElem? (i := 650) (by decide +kernel), List.mem_of_getElem? (i := 874) (by decide +kernel), List.mem_of_getElem? (i := 875) (by decide +kernel)⟩
theorem lw_p45 : lw_okq (⟨"WeightedForestModel", "liesBetween", "(III)Z"⟩, 24) := ⟨⟨by decide +kernel, by decide +kernel⟩, List.mem_of_getElem? (i := 650) (by decide +kernel), List.mem_of_getElem? (i := 890) (by decide +kernel), List.mem_of_getElem? (i := 891) (by decide +kernel)⟩
theorem lw_p46 : lw_okq (⟨"WeightedForestModel", "contract", "([II)V"⟩, 24) := ⟨⟨by decide +kernel, by decide +kernel⟩, List.mem_of_getElem? (i := 650) (by decide +kernel), List.mem_of_getElem? (i := 898) (by decide +kernel), List.mem_of_getElem? (i := 899) (by decide +kernel)⟩
theorem lw_p47 : lw_okq (⟨"WeightedForestModel", "many", "()I"⟩, 24) := ⟨⟨by decide +kernel, by decide +kernel⟩, List.mem_of_getElem? (i := 650) (by decide +kernel), List.mem_of_getElem? (i := 902) (by decide +kernel), List.mem_of_getElem? (i := 903) (by decide +kernel)⟩
def lw_privs_3 : List (MethodName × Nat) := [(⟨"WeightedForestModel", "sign", "(III)I"⟩, 24), (⟨"WeightedForestModel", "readEdge", "()Z"⟩, 24), (⟨"WeightedForestModel", "isOneTree", "([III)Z"⟩, 24), (⟨"WeightedForestModel", "farOf", "([III)I"⟩, 24), (⟨"WeightedForestModel", "layFar", "([II)V"⟩, 24), (⟨"WeightedForestModel", "isVertex", "(I)Z"⟩, 24), (⟨"WeightedForestModel", "linkError", "([IIII)I"⟩, 24), (⟨"WeightedForestModel", "note", "()V"⟩, 24), (⟨"WeightedForestModel", "edgeError", "([IIII)I"⟩, 24), (⟨"WeightedForestModel", "eccentricityOf", "([II)I"⟩, 24), (⟨"WeightedForestModel", "diameterOf", "([II)I"⟩, 24), (⟨"WeightedForestModel", "leastOf", "([IIZ)I"⟩, 24), (⟨"WeightedForestModel", "costOf", "([II)I"⟩, 24), (⟨"WeightedForestModel", "liesBetween", "(III)Z"⟩, 24), (⟨"WeightedForestModel", "contract", "([II)V"⟩, 24), (⟨"WeightedForestModel", "many", "()I"⟩, 24)]
theorem lw_r3 : ∀ q ∈ lw_privs_3, lw_okq q := List.forall_mem_cons.mpr ⟨lw_p32, List.forall_mem_cons.mpr ⟨lw_p33, List.forall_mem_cons.mpr ⟨lw_p34, List.forall_mem_cons.mpr ⟨lw_p35, List.forall_mem_cons.mpr ⟨lw_p36, List.forall_mem_cons.mpr ⟨lw_p37, List.forall_mem_cons.mpr ⟨lw_p38, List.forall_mem_cons.mpr ⟨lw_p39, List.forall_mem_cons.mpr ⟨lw_p40, List.forall_mem_cons.mpr ⟨lw_p41, List.forall_mem_cons.mpr ⟨lw_p42, List.forall_mem_cons.mpr ⟨lw_p43, List.forall_mem_cons.mpr ⟨lw_p44, List.forall_mem_cons.mpr ⟨lw_p45, List.forall_mem_cons.mpr ⟨lw_p46, List.forall_mem_cons.mpr ⟨lw_p47, fun _ h => absurd h List.not_mem_nil⟩⟩⟩⟩⟩⟩⟩⟩⟩⟩⟩⟩⟩⟩⟩⟩
theorem lw_p48 : lw_okq (⟨"WeightedForestModel", "rake", "(I)V"⟩, 24) := ⟨⟨by decide +kernel, by decide +kernel⟩, List.mem_of_getElem? (i := 650) (by decide +kernel), List.mem_of_getElem? (i := 906) (by decide +kernel), List.mem_of_getElem? (i := 907) (by decide +kernel)⟩
theorem lw_p49 : lw_okq (⟨"WeightedForestModel", "degreeOf", "(I)I"⟩, 24) := ⟨⟨by decide +kernel, by decide +kernel⟩, List.mem_of_getElem? (i := 650) (by decide +kernel), List.mem_of_getElem? (i := 910) (by decide +kernel), List.mem_of_getElem? (i := 911) (by decide +kernel)⟩
theorem lw_p50 : lw_okq (⟨"WeightedForestModel", "removeVertex", "(II)V"⟩, 24) := ⟨⟨by decide +kernel, by decide +kernel⟩, List.mem_of_getElem? (i := 650) (by decide +kernel), List.mem_of_getElem? (i := 914) (by decide +kernel), List.mem_of_getElem? (i := 915) (by decide +kernel)⟩
theorem lw_p51 : lw_okq (⟨"WeightedForestModel", "compress", "(I)V"⟩, 24) := ⟨⟨by decide +kernel, by decide +kernel⟩, List.mem_of_getElem? (i := 650) (by decide +kernel), List.mem_of_getElem? (i := 918) (by decide +kernel), List.mem_of_getElem? (i := 919) (by decide +kernel)⟩
theorem lw_p52 : lw_okq (⟨"WeightedForestModel", "neighbour", "(II)I"⟩, 24) := ⟨⟨by decide +kernel, by decide +kernel⟩, List.mem_of_getElem? (i := 650) (by decide +kernel), List.mem_of_getElem? (i := 922) (by decide +kernel), List.mem_of_getElem? (i := 923) (by decide +kernel)⟩
theorem lw_p53 : lw_okq (⟨"WeightedForestModel", "weightWith", "([II)I"⟩, 24) := ⟨⟨by decide +kernel, by decide +kernel⟩, List.mem_of_getElem? (i := 650) (by decide +kernel), List.mem_of_getElem? (i := 938) (by decide +kernel), List.mem_of_getElem? (i := 939) (by decide +kernel)⟩
theorem lw_p54 : lw_okq (⟨"WeightedForestModel", "agrees", "([I)Z"⟩, 24) := ⟨⟨by decide +kernel, by decide +kernel⟩, List.mem_of_getElem? (i := 650) (by decide +kernel), List.mem_of_getElem? (i := 959) (by decide +kernel), List.mem_of_getElem? (i := 960) (by decide +kernel)⟩
theorem lw_p55 : lw_okq (⟨"WeightedForestModel", "command", "(III)Z"⟩, 24) := ⟨⟨by decide +kernel, by decide +kernel⟩, List.mem_of_getElem? (i := 650) (by decide +kernel), List.mem_of_getElem? (i := 972) (by decide +kernel), List.mem_of_getElem? (i := 973) (by decide +kernel)⟩
def lw_privs_4 : List (MethodName × Nat) := [(⟨"WeightedForestModel", "rake", "(I)V"⟩, 24), (⟨"WeightedForestModel", "degreeOf", "(I)I"⟩, 24), (⟨"WeightedForestModel", "removeVertex", "(II)V"⟩, 24), (⟨"WeightedForestModel", "compress", "(I)V"⟩, 24), (⟨"WeightedForestModel", "neighbour", "(II)I"⟩, 24), (⟨"WeightedForestModel", "weightWith", "([II)I"⟩, 24), (⟨"WeightedForestModel", "agrees", "([I)Z"⟩, 24), (⟨"WeightedForestModel", "command", "(III)Z"⟩, 24)]
theorem lw_r4 : ∀ q ∈ lw_privs_4, lw_okq q := List.forall_mem_cons.mpr ⟨lw_p48, List.forall_mem_cons.mpr ⟨lw_p49, List.forall_mem_cons.mpr ⟨lw_p50, List.forall_mem_cons.mpr ⟨lw_p51, List.forall_mem_cons.mpr ⟨lw_p52, List.forall_mem_cons.mpr ⟨lw_p53, List.forall_mem_cons.mpr ⟨lw_p54, List.forall_mem_cons.mpr ⟨lw_p55, fun _ h => absurd h List.not_mem_nil⟩⟩⟩⟩⟩⟩⟩⟩
def lw_privs : List (MethodName × Nat) := lw_privs_1 ++ (lw_privs_2 ++ (lw_privs_3 ++ (lw_privs_4)))
def lw_tbl : List Cond := k2_sels lw_privs ++ tables_1
theorem lw_privs_ok : ∀ q ∈ lw_privs, lw_okq q := by
  show ∀ q ∈ lw_privs_1 ++ (lw_privs_2 ++ (lw_privs_3 ++ (lw_privs_4))), lw_okq q
  exact List.forall_mem_append.mpr ⟨lw_r1, List.forall_mem_append.mpr ⟨lw_r2, List.forall_mem_append.mpr ⟨lw_r3, lw_r4⟩⟩⟩
-- ===== end of PART A; then your names; then what follows =====
def R_law : String := "WeightedForestLaw"
end
section
def RX0 : String := "WeightedForest$Contraction"
def TX0 : u_T := fun k => match k with
  | 0 => ("WeightedForest$Contraction", "count", "I", false)
  | 1 => ("WeightedForest$Contraction", "remaining", "I", false)
  | 2 => ("WeightedForest$Contraction", "round", "I", false)
  | 3 => ("WeightedForest$Contraction", "present", "[Z", true)
  | 4 => ("WeightedForest$Contraction", "raked", "[Z", true)
  | 5 => ("WeightedForest$Contraction", "removedIn", "[I", true)
  | _ => ("WeightedForest$Contraction", "edges", "[[I", true)
def tyX0 : Nat → FieldType := fun k => match k with
  | 0 => .int
  | 1 => .int
  | 2 => .int
  | 3 => .array .boolean
  | 4 => .array .boolean
  | 5 => .array .int
  | _ => .array (.array .int)
abbrev wsX00 : List Cond := u_ws RX0 TX0 7
theorem nmX0 : ∀ a, a < 7 → ∀ b, b < 7 → a ≠ b → (TX0 a).2.1 ≠ (TX0 b).2.1 := by decide +kernel
theorem tyX0_ok : ∀ k, k < 7 → parseFieldDescriptor (TX0 k).2.2.1 = some (tyX0 k) := by decide +kernel
abbrev cX0_init : ByteArray := prog_2_method_1_code
def yX0_init : MethodName := ⟨RX0, "<init>", "()V"⟩
abbrev cX0_contract : ByteArray := prog_2_method_2_code
def yX0_contract : MethodName := ⟨RX0, "contract", "(LWeightedForest$Forest;I)V"⟩
abbrev cX0_roundCount : ByteArray := prog_2_method_3_code
def yX0_roundCount : MethodName := ⟨RX0, "roundCount", "()I"⟩
abbrev cX0_roundOf : ByteArray := prog_2_method_4_code
def yX0_roundOf : MethodName := ⟨RX0, "roundOf", "(I)I"⟩
abbrev cX0_lastVertex : ByteArray := prog_2_method_5_code
def yX0_lastVertex : MethodName := ⟨RX0, "lastVertex", "()I"⟩
abbrev cX0_isVertex : ByteArray := prog_2_method_6_code
def yX0_isVertex : MethodName := ⟨RX0, "isVertex", "(I)Z"⟩
abbrev cX0_copyEdges : ByteArray := prog_2_method_7_code
def yX0_copyEdges : MethodName := ⟨RX0, "copyEdges", "(LWeightedForest$Forest;)V"⟩
abbrev cX0_gatherTree : ByteArray := prog_2_method_8_code
def yX0_gatherTree : MethodName := ⟨RX0, "gatherTree", "(I)V"⟩
abbrev cX0_gatherNeighbours : ByteArray := prog_2_method_9_code
def yX0_gatherNeighbours : MethodName := ⟨RX0, "gatherNeighbours", "()V"⟩
abbrev cX0_rake : ByteArray := prog_2_method_10_code
def yX0_rake : MethodName := ⟨RX0, "rake", "()V"⟩
abbrev cX0_removeGreatest : ByteArray := prog_2_method_11_code
def yX0_removeGreatest : MethodName := ⟨RX0, "removeGreatest", "()V"⟩
abbrev cX0_compress : ByteArray := prog_2_method_12_code
def yX0_compress : MethodName := ⟨RX0, "compress", "()V"⟩
abbrev cX0_makeEdgesOld : ByteArray := prog_2_method_13_code
def yX0_makeEdgesOld : MethodName := ⟨RX0, "makeEdgesOld", "()V"⟩
abbrev cX0_bypass : ByteArray := prog_2_method_14_code
def yX0_bypass : MethodName := ⟨RX0, "bypass", "(I)V"⟩
abbrev cX0_neighbourAfter : ByteArray := prog_2_method_15_code
def yX0_neighbourAfter : MethodName := ⟨RX0, "neighbourAfter", "(II)I"⟩
abbrev cX0_degreeOf : ByteArray := prog_2_method_16_code
def yX0_degreeOf : MethodName := ⟨RX0, "degreeOf", "(I)I"⟩
abbrev cX0_remove : ByteArray := prog_2_method_17_code
def yX0_remove : MethodName := ⟨RX0, "remove", "(I)V"⟩
def RX1 : String := "WeightedForest$Forest"
def TX1 : u_T := fun k => match k with
  | 0 => ("WeightedForest$Forest", "count", "I", false)
  | 1 => ("WeightedForest$Forest", "weights", "[I", true)
  | _ => ("WeightedForest$Forest", "edges", "[[I", true)
def tyX1 : Nat → FieldType := fun k => match k with
  | 0 => .int
  | 1 => .array .int
  | _ => .array (.array .int)
abbrev wsX10 : List Cond := u_ws RX1 TX1 3
theorem nmX1 : ∀ a, a < 3 → ∀ b, b < 3 → a ≠ b → (TX1 a).2.1 ≠ (TX1 b).2.1 := by decide +kernel
theorem tyX1_ok : ∀ k, k < 3 → parseFieldDescriptor (TX1 k).2.2.1 = some (tyX1 k) := by decide +kernel
abbrev cX1_init : ByteArray := prog_3_method_1_code
def yX1_init : MethodName := ⟨RX1, "<init>", "()V"⟩
abbrev cX1_reset : ByteArray := prog_3_method_2_code
def yX1_reset : MethodName := ⟨RX1, "reset", "(I)V"⟩
abbrev cX1_become : ByteArray := prog_3_method_3_code
def yX1_become : MethodName := ⟨RX1, "become", "(LWeightedForest$Forest;)V"⟩
abbrev cX1_vertices : ByteArray := prog_3_method_4_code
def yX1_vertices : MethodName := ⟨RX1, "vertices", "()I"⟩
abbrev cX1_hasVertex : ByteArray := prog_3_method_5_code
def yX1_hasVertex : MethodName := ⟨RX1, "hasVertex", "(I)Z"⟩
abbrev cX1_hasVertices : ByteArray := prog_3_method_6_code
def yX1_hasVertices : MethodName := ⟨RX1, "hasVertices", "(II)Z"⟩
abbrev cX1_weightOf : ByteArray := prog_3_method_7_code
def yX1_weightOf : MethodName := ⟨RX1, "weightOf", "(I)I"⟩
abbrev cX1_putWeight : ByteArray := prog_3_method_8_code
def yX1_putWeight : MethodName := ⟨RX1, "putWeight", "(II)V"⟩
abbrev cX1_hasEdge : ByteArray := prog_3_method_9_code
def yX1_hasEdge : MethodName := ⟨RX1, "hasEdge", "(II)Z"⟩
abbrev cX1_edgeBetween : ByteArray := prog_3_method_10_code
def yX1_edgeBetween : MethodName := ⟨RX1, "edgeBetween", "(II)I"⟩
abbrev cX1_putEdge : ByteArray := prog_3_method_11_code
def yX1_putEdge : MethodName := ⟨RX1, "putEdge", "(III)V"⟩
abbrev cX1_edgeCount : ByteArray := prog_3_method_12_code
def yX1_edgeCount : MethodName := ⟨RX1, "edgeCount", "()I"⟩
def RX2 : String := "WeightedForest$History"
def TX2 : u_T := fun k => match k with
  | 0 => ("WeightedForest$History", "states", "[LWeightedForest$Forest;", true)
  | 1 => ("WeightedForest$History", "next", "I", false)
  | _ => ("WeightedForest$History", "count", "I", false)
def tyX2 : Nat → FieldType := fun k => match k with
  | 0 => .array (.object "WeightedForest$Forest")
  | 1 => .int
  | _ => .int
abbrev wsX20 : List Cond := u_ws RX2 TX2 3
theorem nmX2 : ∀ a, a < 3 → ∀ b, b < 3 → a ≠ b → (TX2 a).2.1 ≠ (TX2 b).2.1 := by decide +kernel
theorem tyX2_ok : ∀ k, k < 3 → parseFieldDescriptor (TX2 k).2.2.1 = some (tyX2 k) := by decide +kernel
abbrev cX2_init : ByteArray := prog_4_method_1_code
def yX2_init : MethodName := ⟨RX2, "<init>", "()V"⟩
abbrev cX2_size : ByteArray := prog_4_method_2_code
def yX2_size : MethodName := ⟨RX2, "size", "()I"⟩
abbrev cX2_remember : ByteArray := prog_4_method_3_code
def yX2_remember : MethodName := ⟨RX2, "remember", "(LWeightedForest$Forest;)V"⟩
abbrev cX2_takeBack : ByteArray := prog_4_method_4_code
def yX2_takeBack : MethodName := ⟨RX2, "takeBack", "(LWeightedForest$Forest;)Z"⟩
abbrev cX2_forget : ByteArray := prog_4_method_5_code
def yX2_forget : MethodName := ⟨RX2, "forget", "()V"⟩
def RX3 : String := "WeightedForest$Observations"
def TX3 : u_T := fun k => match k with
  | 0 => ("WeightedForest$Observations", "starts", "[I", true)
  | 1 => ("WeightedForest$Observations", "ends", "[I", true)
  | 2 => ("WeightedForest$Observations", "lengths", "[I", true)
  | 3 => ("WeightedForest$Observations", "next", "I", false)
  | _ => ("WeightedForest$Observations", "count", "I", false)
def tyX3 : Nat → FieldType := fun k => match k with
  | 0 => .array .int
  | 1 => .array .int
  | 2 => .array .int
  | 3 => .int
  | _ => .int
abbrev wsX30 : List Cond := u_ws RX3 TX3 5
theorem nmX3 : ∀ a, a < 5 → ∀ b, b < 5 → a ≠ b → (TX3 a).2.1 ≠ (TX3 b).2.1 := by decide +kernel
theorem tyX3_ok : ∀ k, k < 5 → parseFieldDescriptor (TX3 k).2.2.1 = some (tyX3 k) := by decide +kernel
abbrev cX3_init : ByteArray := prog_5_method_1_code
def yX3_init : MethodName := ⟨RX3, "<init>", "()V"⟩
abbrev cX3_store : ByteArray := prog_5_method_2_code
def yX3_store : MethodName := ⟨RX3, "store", "(III)I"⟩
abbrev cX3_countWeights : ByteArray := prog_5_method_3_code
def yX3_countWeights : MethodName := ⟨RX3, "countWeights", "(LWeightedForest$Survey;II)I"⟩
def RX4 : String := "WeightedForest$SetupText"
def TX4 : u_T := fun k => match k with
  | 0 => ("WeightedForest$SetupText", "length", "I", false)
  | 1 => ("WeightedForest$SetupText", "signs", "[I", true)
  | 2 => ("WeightedForest$SetupText", "place", "I", false)
  | _ => ("WeightedForest$SetupText", "treeMarks", "[I", true)
def tyX4 : Nat → FieldType := fun k => match k with
  | 0 => .int
  | 1 => .array .int
  | 2 => .int
  | _ => .array .int
abbrev wsX40 : List Cond := u_ws RX4 TX4 4
theorem nmX4 : ∀ a, a < 4 → ∀ b, b < 4 → a ≠ b → (TX4 a).2.1 ≠ (TX4 b).2.1 := by decide +kernel
theorem tyX4_ok : ∀ k, k < 4 → parseFieldDescriptor (TX4 k).2.2.1 = some (tyX4 k) := by decide +kernel
abbrev cX4_init : ByteArray := prog_6_method_1_code
def yX4_init : MethodName := ⟨RX4, "<init>", "()V"⟩
abbrev cX4_size : ByteArray := prog_6_method_2_code
def yX4_size : MethodName := ⟨RX4, "size", "()I"⟩
abbrev cX4_put : ByteArray := prog_6_method_3_code
def yX4_put : MethodName := ⟨RX4, "put", "(I)Z"⟩
abbrev cX4_empty : ByteArray := prog_6_method_4_code
def yX4_empty : MethodName := ⟨RX4, "empty", "()V"⟩
abbrev cX4_readInto : ByteArray := prog_6_method_5_code
def yX4_readInto : MethodName := ⟨RX4, "readInto", "(LWeightedForest$Forest;)I"⟩
abbrev cX4_takeWeights : ByteArray := prog_6_method_6_code
def yX4_takeWeights : MethodName := ⟨RX4, "takeWeights", "(LWeightedForest$Forest;)Z"⟩
abbrev cX4_takeEdges : ByteArray := prog_6_method_7_code
def yX4_takeEdges : MethodName := ⟨RX4, "takeEdges", "(LWeightedForest$Forest;)Z"⟩
abbrev cX4_takeEdge : ByteArray := prog_6_method_8_code
def yX4_takeEdge : MethodName := ⟨RX4, "takeEdge", "(LWeightedForest$Forest;)Z"⟩
abbrev cX4_joinTrees : ByteArray := prog_6_method_9_code
def yX4_joinTrees : MethodName := ⟨RX4, "joinTrees", "(II)V"⟩
abbrev cX4_takeNumber : ByteArray := prog_6_method_10_code
def yX4_takeNumber : MethodName := ⟨RX4, "takeNumber", "(II)I"⟩
abbrev cX4_take : ByteArray := prog_6_method_11_code
def yX4_take : MethodName := ⟨RX4, "take", "(II)I"⟩
def RX5 : String := "WeightedForest$Survey"
def TX5 : u_T := fun k => match k with
  | 0 => ("WeightedForest$Survey", "forest", "LWeightedForest$Forest;", true)
  | 1 => ("WeightedForest$Survey", "count", "I", false)
  | _ => ("WeightedForest$Survey", "lengths", "[[I", true)
def tyX5 : Nat → FieldType := fun k => match k with
  | 0 => .object "WeightedForest$Forest"
  | 1 => .int
  | _ => .array (.array .int)
abbrev wsX50 : List Cond := u_ws RX5 TX5 3
theorem nmX5 : ∀ a, a < 3 → ∀ b, b < 3 → a ≠ b → (TX5 a).2.1 ≠ (TX5 b).2.1 := by decide +kernel
theorem tyX5_ok : ∀ k, k < 3 → parseFieldDescriptor (TX5 k).2.2.1 = some (tyX5 k) := by decide +kernel
abbrev cX5_init : ByteArray := prog_7_method_1_code
def yX5_init : MethodName := ⟨RX5, "<init>", "(LWeightedForest$Forest;)V"⟩
abbrev cX5_measure : ByteArray := prog_7_method_2_code
def yX5_measure : MethodName := ⟨RX5, "measure", "()V"⟩
abbrev cX5_extendOver : ByteArray := prog_7_method_3_code
def yX5_extendOver : MethodName := ⟨RX5, "extendOver", "(II)V"⟩
abbrev cX5_between : ByteArray := prog_7_method_4_code
def yX5_between : MethodName := ⟨RX5, "between", "(II)I"⟩
abbrev cX5_joined : ByteArray := prog_7_method_5_code
def yX5_joined : MethodName := ⟨RX5, "joined", "(II)Z"⟩
abbrev cX5_edgeOf : ByteArray := prog_7_method_6_code
def yX5_edgeOf : MethodName := ⟨RX5, "edgeOf", "(II)I"⟩
abbrev cX5_smallestJoined : ByteArray := prog_7_method_7_code
def yX5_smallestJoined : MethodName := ⟨RX5, "smallestJoined", "(I)I"⟩
abbrev cX5_vertexOnPath : ByteArray := prog_7_method_8_code
def yX5_vertexOnPath : MethodName := ⟨RX5, "vertexOnPath", "(III)I"⟩
abbrev cX5_stepToward : ByteArray := prog_7_method_9_code
def yX5_stepToward : MethodName := ⟨RX5, "stepToward", "(II)I"⟩
abbrev cX5_greatestFrom : ByteArray := prog_7_method_10_code
def yX5_greatestFrom : MethodName := ⟨RX5, "greatestFrom", "(I)I"⟩
abbrev cX5_firstFarthest : ByteArray := prog_7_method_11_code
def yX5_firstFarthest : MethodName := ⟨RX5, "firstFarthest", "(I)I"⟩
abbrev cX5_widthAround : ByteArray := prog_7_method_12_code
def yX5_widthAround : MethodName := ⟨RX5, "widthAround", "(I)I"⟩
abbrev cX5_firstWideEnd : ByteArray := prog_7_method_13_code
def yX5_firstWideEnd : MethodName := ⟨RX5, "firstWideEnd", "(I)I"⟩
abbrev cX5_middleOf : ByteArray := prog_7_method_14_code
def yX5_middleOf : MethodName := ⟨RX5, "middleOf", "(I)I"⟩
abbrev cX5_priceOf : ByteArray := prog_7_method_15_code
def yX5_priceOf : MethodName := ⟨RX5, "priceOf", "(I)I"⟩
abbrev cX5_cheapestOf : ByteArray := prog_7_method_16_code
def yX5_cheapestOf : MethodName := ⟨RX5, "cheapestOf", "(I)I"⟩
abbrev cX5_meetingOf : ByteArray := prog_7_method_17_code
def yX5_meetingOf : MethodName := ⟨RX5, "meetingOf", "(III)I"⟩
abbrev cX5_onPath : ByteArray := prog_7_method_18_code
def yX5_onPath : MethodName := ⟨RX5, "onPath", "(III)Z"⟩
abbrev cX5_goesOver : ByteArray := prog_7_method_19_code
def yX5_goesOver : MethodName := ⟨RX5, "goesOver", "(IIII)Z"⟩
abbrev cX5_evenestEdge : ByteArray := prog_7_method_20_code
def yX5_evenestEdge : MethodName := ⟨RX5, "evenestEdge", "(I)I"⟩
abbrev cX5_heavierPart : ByteArray := prog_7_method_21_code
def yX5_heavierPart : MethodName := ⟨RX5, "heavierPart", "(II)I"⟩
abbrev cX5_reachOf : ByteArray := prog_7_method_22_code
def yX5_reachOf : MethodName := ⟨RX5, "reachOf", "(II)J"⟩
abbrev cX5_chanceOfPath : ByteArray := prog_7_method_23_code
def yX5_chanceOfPath : MethodName := ⟨RX5, "chanceOfPath", "(III)J"⟩
def RX6 : String := "WeightedForest"
def TX6 : u_T := fun k => match k with
  | 0 => ("WeightedForest", "forest", "LWeightedForest$Forest;", true)
  | 1 => ("WeightedForest", "survey", "LWeightedForest$Survey;", true)
  | 2 => ("WeightedForest", "trial", "LWeightedForest$Forest;", true)
  | 3 => ("WeightedForest", "trialSurvey", "LWeightedForest$Survey;", true)
  | 4 => ("WeightedForest", "contraction", "LWeightedForest$Contraction;", true)
  | 5 => ("WeightedForest", "text", "LWeightedForest$SetupText;", true)
  | 6 => ("WeightedForest", "history", "LWeightedForest$History;", true)
  | 7 => ("WeightedForest", "observations", "LWeightedForest$Observations;", true)
  | 8 => ("WeightedForest", "slots", "[LWeightedForest$Forest;", true)
  | _ => ("WeightedForest", "filled", "[Z", true)
def tyX6 : Nat → FieldType := fun k => match k with
  | 0 => .object "WeightedForest$Forest"
  | 1 => .object "WeightedForest$Survey"
  | 2 => .object "WeightedForest$Forest"
  | 3 => .object "WeightedForest$Survey"
  | 4 => .object "WeightedForest$Contraction"
  | 5 => .object "WeightedForest$SetupText"
  | 6 => .object "WeightedForest$History"
  | 7 => .object "WeightedForest$Observations"
  | 8 => .array (.object "WeightedForest$Forest")
  | _ => .array .boolean
abbrev wsX60 : List Cond := u_ws RX6 TX6 10
theorem nmX6 : ∀ a, a < 10 → ∀ b, b < 10 → a ≠ b → (TX6 a).2.1 ≠ (TX6 b).2.1 := by decide +kernel
theorem tyX6_ok : ∀ k, k < 10 → parseFieldDescriptor (TX6 k).2.2.1 = some (tyX6 k) := by decide +kernel
abbrev cX6_init : ByteArray := prog_1_method_1_code
def yX6_init : MethodName := ⟨RX6, "<init>", "()V"⟩
abbrev cX6_append : ByteArray := prog_1_method_2_code
def yX6_append : MethodName := ⟨RX6, "append", "(I)I"⟩
abbrev cX6_clearText : ByteArray := prog_1_method_3_code
def yX6_clearText : MethodName := ⟨RX6, "clearText", "()I"⟩
abbrev cX6_errorPosition : ByteArray := prog_1_method_4_code
def yX6_errorPosition : MethodName := ⟨RX6, "errorPosition", "()I"⟩
abbrev cX6_load : ByteArray := prog_1_method_5_code
def yX6_load : MethodName := ⟨RX6, "load", "()I"⟩
abbrev cX6_emptySlots : ByteArray := prog_1_method_6_code
def yX6_emptySlots : MethodName := ⟨RX6, "emptySlots", "()V"⟩
abbrev cX6_vertexWeight : ByteArray := prog_1_method_7_code
def yX6_vertexWeight : MethodName := ⟨RX6, "vertexWeight", "(I)I"⟩
abbrev cX6_edgeWeight : ByteArray := prog_1_method_8_code
def yX6_edgeWeight : MethodName := ⟨RX6, "edgeWeight", "(II)I"⟩
abbrev cX6_treeOf : ByteArray := prog_1_method_9_code
def yX6_treeOf : MethodName := ⟨RX6, "treeOf", "(I)I"⟩
abbrev cX6_link : ByteArray := prog_1_method_10_code
def yX6_link : MethodName := ⟨RX6, "link", "(III)I"⟩
abbrev cX6_cut : ByteArray := prog_1_method_11_code
def yX6_cut : MethodName := ⟨RX6, "cut", "(II)I"⟩
abbrev cX6_setEdgeWeight : ByteArray := prog_1_method_12_code
def yX6_setEdgeWeight : MethodName := ⟨RX6, "setEdgeWeight", "(III)I"⟩
abbrev cX6_setVertexWeight : ByteArray := prog_1_method_13_code
def yX6_setVertexWeight : MethodName := ⟨RX6, "setVertexWeight", "(II)I"⟩
abbrev cX6_undo : ByteArray := prog_1_method_14_code
def yX6_undo : MethodName := ⟨RX6, "undo", "()I"⟩
abbrev cX6_linkError : ByteArray := prog_1_method_15_code
def yX6_linkError : MethodName := ⟨RX6, "linkError", "(LWeightedForest$Forest;LWeightedForest$Survey;III)I"⟩
abbrev cX6_cutError : ByteArray := prog_1_method_16_code
def yX6_cutError : MethodName := ⟨RX6, "cutError", "(LWeightedForest$Forest;II)I"⟩
abbrev cX6_distance : ByteArray := prog_1_method_17_code
def yX6_distance : MethodName := ⟨RX6, "distance", "(II)I"⟩
abbrev cX6_pathVertex : ByteArray := prog_1_method_18_code
def yX6_pathVertex : MethodName := ⟨RX6, "pathVertex", "(III)I"⟩
abbrev cX6_eccentricity : ByteArray := prog_1_method_19_code
def yX6_eccentricity : MethodName := ⟨RX6, "eccentricity", "(I)I"⟩
abbrev cX6_diameter : ByteArray := prog_1_method_20_code
def yX6_diameter : MethodName := ⟨RX6, "diameter", "(I)I"⟩
abbrev cX6_diameterEnd : ByteArray := prog_1_method_21_code
def yX6_diameterEnd : MethodName := ⟨RX6, "diameterEnd", "(II)I"⟩
abbrev cX6_centre : ByteArray := prog_1_method_22_code
def yX6_centre : MethodName := ⟨RX6, "centre", "(I)I"⟩
abbrev cX6_median : ByteArray := prog_1_method_23_code
def yX6_median : MethodName := ⟨RX6, "median", "(I)I"⟩
abbrev cX6_cost : ByteArray := prog_1_method_24_code
def yX6_cost : MethodName := ⟨RX6, "cost", "(I)I"⟩
abbrev cX6_meeting : ByteArray := prog_1_method_25_code
def yX6_meeting : MethodName := ⟨RX6, "meeting", "(III)I"⟩
abbrev cX6_rounds : ByteArray := prog_1_method_26_code
def yX6_rounds : MethodName := ⟨RX6, "rounds", "(I)I"⟩
abbrev cX6_removalRound : ByteArray := prog_1_method_27_code
def yX6_removalRound : MethodName := ⟨RX6, "removalRound", "(I)I"⟩
abbrev cX6_survivor : ByteArray := prog_1_method_28_code
def yX6_survivor : MethodName := ⟨RX6, "survivor", "(I)I"⟩
abbrev cX6_balancedCut : ByteArray := prog_1_method_29_code
def yX6_balancedCut : MethodName := ⟨RX6, "balancedCut", "(I)I"⟩
abbrev cX6_expectedReach : ByteArray := prog_1_method_30_code
def yX6_expectedReach : MethodName := ⟨RX6, "expectedReach", "(II)J"⟩
abbrev cX6_observe : ByteArray := prog_1_method_31_code
def yX6_observe : MethodName := ⟨RX6, "observe", "(III)I"⟩
abbrev cX6_possibleWeights : ByteArray := prog_1_method_32_code
def yX6_possibleWeights : MethodName := ⟨RX6, "possibleWeights", "(II)I"⟩
abbrev cX6_runScript : ByteArray := prog_1_method_33_code
def yX6_runScript : MethodName := ⟨RX6, "runScript", "(IJ)I"⟩
abbrev cX6_obeys : ByteArray := prog_1_method_34_code
def yX6_obeys : MethodName := ⟨RX6, "obeys", "(I)Z"⟩
abbrev cX6_triesLink : ByteArray := prog_1_method_35_code
def yX6_triesLink : MethodName := ⟨RX6, "triesLink", "(II)Z"⟩
abbrev cX6_triesCut : ByteArray := prog_1_method_36_code
def yX6_triesCut : MethodName := ⟨RX6, "triesCut", "(II)Z"⟩
abbrev cX6_joinedInTrial : ByteArray := prog_1_method_37_code
def yX6_joinedInTrial : MethodName := ⟨RX6, "joinedInTrial", "(II)Z"⟩
abbrev cX6_leavesEarlier : ByteArray := prog_1_method_38_code
def yX6_leavesEarlier : MethodName := ⟨RX6, "leavesEarlier", "(II)Z"⟩
abbrev cX6_randomChanges : ByteArray := prog_1_method_39_code
def yX6_randomChanges : MethodName := ⟨RX6, "randomChanges", "(JI)I"⟩
abbrev cX6_changeTrial : ByteArray := prog_1_method_40_code
def yX6_changeTrial : MethodName := ⟨RX6, "changeTrial", "(I)V"⟩
abbrev cX6_save : ByteArray := prog_1_method_41_code
def yX6_save : MethodName := ⟨RX6, "save", "(I)I"⟩
abbrev cX6_restore : ByteArray := prog_1_method_42_code
def yX6_restore : MethodName := ⟨RX6, "restore", "(I)I"⟩
def RX7 : String := "WeightedForestModel"
def TX7 : u_T := fun k => match k with
  | 0 => ("WeightedForestModel", "text", "[I", true)
  | 1 => ("WeightedForestModel", "length", "I", false)
  | 2 => ("WeightedForestModel", "place", "I", false)
  | 3 => ("WeightedForestModel", "n", "I", false)
  | 4 => ("WeightedForestModel", "readN", "I", false)
  | 5 => ("WeightedForestModel", "now", "[I", true)
  | 6 => ("WeightedForestModel", "trial", "[I", true)
  | 7 => ("WeightedForestModel", "read", "[I", true)
  | 8 => ("WeightedForestModel", "diary", "[I", true)
  | 9 => ("WeightedForestModel", "acts", "I", false)
  | 10 => ("WeightedForestModel", "next", "I", false)
  | 11 => ("WeightedForestModel", "kept", "[I", true)
  | 12 => ("WeightedForestModel", "isKept", "[Z", true)
  | 13 => ("WeightedForestModel", "told", "[I", true)
  | 14 => ("WeightedForestModel", "toldMany", "I", false)
  | 15 => ("WeightedForestModel", "far", "[I", true)
  | 16 => ("WeightedForestModel", "hops", "[I", true)
  | 17 => ("WeightedForestModel", "farThere", "[I", true)
  | 18 => ("WeightedForestModel", "link", "[I", true)
  | 19 => ("WeightedForestModel", "isThere", "[Z", true)
  | 20 => ("WeightedForestModel", "goes", "[Z", true)
  | 21 => ("WeightedForestModel", "goneIn", "[I", true)
  | 22 => ("WeightedForestModel", "survivorIs", "I", false)
  | _ => ("WeightedForestModel", "roundsAre", "I", false)
def tyX7 : Nat → FieldType := fun k => match k with
  | 0 => .array .int
  | 1 => .int
  | 2 => .int
  | 3 => .int
  | 4 => .int
  | 5 => .array .int
  | 6 => .array .int
  | 7 => .array .int
  | 8 => .array .int
  | 9 => .int
  | 10 => .int
  | 11 => .array .int
  | 12 => .array .boolean
  | 13 => .array .int
  | 14 => .int
  | 15 => .array .int
  | 16 => .array .int
  | 17 => .array .int
  | 18 => .array .int
  | 19 => .array .boolean
  | 20 => .array .boolean
  | 21 => .array .int
  | 22 => .int
  | _ => .int
abbrev wsX70 : List Cond := u_ws RX7 TX7 24
theorem nmX7 : ∀ a, a < 24 → ∀ b, b < 24 → a ≠ b → (TX7 a).2.1 ≠ (TX7 b).2.1 := by decide +kernel
theorem tyX7_ok : ∀ k, k < 24 → parseFieldDescriptor (TX7 k).2.2.1 = some (tyX7 k) := by decide +kernel
abbrev cX7_init : ByteArray := prog_9_method_1_code
def yX7_init : MethodName := ⟨RX7, "<init>", "()V"⟩
abbrev cX7_in : ByteArray := prog_9_method_3_code
def yX7_in : MethodName := ⟨RX7, "in", "(JJJ)Z"⟩
abbrev cX7_copy : ByteArray := prog_9_method_4_code
def yX7_copy : MethodName := ⟨RX7, "copy", "([I[I)V"⟩
abbrev cX7_at : ByteArray := prog_9_method_5_code
def yX7_at : MethodName := ⟨RX7, "at", "(II)I"⟩
abbrev cX7_isVertex : ByteArray := prog_9_method_6_code
def yX7_isVertex : MethodName := ⟨RX7, "isVertex", "(I)Z"⟩
abbrev cX7_edgesOf : ByteArray := prog_9_method_7_code
def yX7_edgesOf : MethodName := ⟨RX7, "edgesOf", "([I)I"⟩
abbrev cX7_join : ByteArray := prog_9_method_8_code
def yX7_join : MethodName := ⟨RX7, "join", "([IIII)V"⟩
abbrev cX7_layFar : ByteArray := prog_9_method_9_code
def yX7_layFar : MethodName := ⟨RX7, "layFar", "([II)V"⟩
abbrev cX7_farOf : ByteArray := prog_9_method_10_code
def yX7_farOf : MethodName := ⟨RX7, "farOf", "([III)I"⟩
abbrev cX7_isOneTree : ByteArray := prog_9_method_11_code
def yX7_isOneTree : MethodName := ⟨RX7, "isOneTree", "([III)Z"⟩
abbrev cX7_eccentricityOf : ByteArray := prog_9_method_12_code
def yX7_eccentricityOf : MethodName := ⟨RX7, "eccentricityOf", "([II)I"⟩
abbrev cX7_diameterOf : ByteArray := prog_9_method_13_code
def yX7_diameterOf : MethodName := ⟨RX7, "diameterOf", "([II)I"⟩
abbrev cX7_costOf : ByteArray := prog_9_method_14_code
def yX7_costOf : MethodName := ⟨RX7, "costOf", "([II)I"⟩
abbrev cX7_leastOf : ByteArray := prog_9_method_15_code
def yX7_leastOf : MethodName := ⟨RX7, "leastOf", "([IIZ)I"⟩
abbrev cX7_append : ByteArray := prog_9_method_16_code
def yX7_append : MethodName := ⟨RX7, "append", "(I)I"⟩
abbrev cX7_clearText : ByteArray := prog_9_method_17_code
def yX7_clearText : MethodName := ⟨RX7, "clearText", "()I"⟩
abbrev cX7_sign : ByteArray := prog_9_method_18_code
def yX7_sign : MethodName := ⟨RX7, "sign", "(III)I"⟩
abbrev cX7_number : ByteArray := prog_9_method_19_code
def yX7_number : MethodName := ⟨RX7, "number", "(II)I"⟩
abbrev cX7_readEdge : ByteArray := prog_9_method_20_code
def yX7_readEdge : MethodName := ⟨RX7, "readEdge", "()Z"⟩
abbrev cX7_readText : ByteArray := prog_9_method_21_code
def yX7_readText : MethodName := ⟨RX7, "readText", "()I"⟩
abbrev cX7_errorPosition : ByteArray := prog_9_method_22_code
def yX7_errorPosition : MethodName := ⟨RX7, "errorPosition", "()I"⟩
abbrev cX7_load : ByteArray := prog_9_method_23_code
def yX7_load : MethodName := ⟨RX7, "load", "()I"⟩
abbrev cX7_vertexWeight : ByteArray := prog_9_method_24_code
def yX7_vertexWeight : MethodName := ⟨RX7, "vertexWeight", "(I)I"⟩
abbrev cX7_edgeWeight : ByteArray := prog_9_method_25_code
def yX7_edgeWeight : MethodName := ⟨RX7, "edgeWeight", "(II)I"⟩
abbrev cX7_treeOf : ByteArray := prog_9_method_26_code
def yX7_treeOf : MethodName := ⟨RX7, "treeOf", "(I)I"⟩
abbrev cX7_note : ByteArray := prog_9_method_27_code
def yX7_note : MethodName := ⟨RX7, "note", "()V"⟩
abbrev cX7_linkError : ByteArray := prog_9_method_28_code
def yX7_linkError : MethodName := ⟨RX7, "linkError", "([IIII)I"⟩
abbrev cX7_link : ByteArray := prog_9_method_29_code
def yX7_link : MethodName := ⟨RX7, "link", "(III)I"⟩
abbrev cX7_edgeError : ByteArray := prog_9_method_30_code
def yX7_edgeError : MethodName := ⟨RX7, "edgeError", "([IIII)I"⟩
abbrev cX7_cut : ByteArray := prog_9_method_31_code
def yX7_cut : MethodName := ⟨RX7, "cut", "(II)I"⟩
abbrev cX7_setEdgeWeight : ByteArray := prog_9_method_32_code
def yX7_setEdgeWeight : MethodName := ⟨RX7, "setEdgeWeight", "(III)I"⟩
abbrev cX7_setVertexWeight : ByteArray := prog_9_method_33_code
def yX7_setVertexWeight : MethodName := ⟨RX7, "setVertexWeight", "(II)I"⟩
abbrev cX7_undo : ByteArray := prog_9_method_34_code
def yX7_undo : MethodName := ⟨RX7, "undo", "()I"⟩
abbrev cX7_distance : ByteArray := prog_9_method_35_code
def yX7_distance : MethodName := ⟨RX7, "distance", "(II)I"⟩
abbrev cX7_pathVertex : ByteArray := prog_9_method_36_code
def yX7_pathVertex : MethodName := ⟨RX7, "pathVertex", "(III)I"⟩
abbrev cX7_eccentricity : ByteArray := prog_9_method_37_code
def yX7_eccentricity : MethodName := ⟨RX7, "eccentricity", "(I)I"⟩
abbrev cX7_diameter : ByteArray := prog_9_method_38_code
def yX7_diameter : MethodName := ⟨RX7, "diameter", "(I)I"⟩
abbrev cX7_diameterEnd : ByteArray := prog_9_method_39_code
def yX7_diameterEnd : MethodName := ⟨RX7, "diameterEnd", "(II)I"⟩
abbrev cX7_centre : ByteArray := prog_9_method_40_code
def yX7_centre : MethodName := ⟨RX7, "centre", "(I)I"⟩
abbrev cX7_median : ByteArray := prog_9_method_41_code
def yX7_median : MethodName := ⟨RX7, "median", "(I)I"⟩
abbrev cX7_cost : ByteArray := prog_9_method_42_code
def yX7_cost : MethodName := ⟨RX7, "cost", "(I)I"⟩
abbrev cX7_liesBetween : ByteArray := prog_9_method_43_code
def yX7_liesBetween : MethodName := ⟨RX7, "liesBetween", "(III)Z"⟩
abbrev cX7_meeting : ByteArray := prog_9_method_44_code
def yX7_meeting : MethodName := ⟨RX7, "meeting", "(III)I"⟩
abbrev cX7_degreeOf : ByteArray := prog_9_method_45_code
def yX7_degreeOf : MethodName := ⟨RX7, "degreeOf", "(I)I"⟩
abbrev cX7_removeVertex : ByteArray := prog_9_method_46_code
def yX7_removeVertex : MethodName := ⟨RX7, "removeVertex", "(II)V"⟩
abbrev cX7_neighbour : ByteArray := prog_9_method_47_code
def yX7_neighbour : MethodName := ⟨RX7, "neighbour", "(II)I"⟩
abbrev cX7_many : ByteArray := prog_9_method_48_code
def yX7_many : MethodName := ⟨RX7, "many", "()I"⟩
abbrev cX7_rake : ByteArray := prog_9_method_49_code
def yX7_rake : MethodName := ⟨RX7, "rake", "(I)V"⟩
abbrev cX7_compress : ByteArray := prog_9_method_50_code
def yX7_compress : MethodName := ⟨RX7, "compress", "(I)V"⟩
abbrev cX7_contract : ByteArray := prog_9_method_51_code
def yX7_contract : MethodName := ⟨RX7, "contract", "([II)V"⟩
abbrev cX7_rounds : ByteArray := prog_9_method_52_code
def yX7_rounds : MethodName := ⟨RX7, "rounds", "(I)I"⟩
abbrev cX7_removalRound : ByteArray := prog_9_method_53_code
def yX7_removalRound : MethodName := ⟨RX7, "removalRound", "(I)I"⟩
abbrev cX7_survivor : ByteArray := prog_9_method_54_code
def yX7_survivor : MethodName := ⟨RX7, "survivor", "(I)I"⟩
abbrev cX7_weightWith : ByteArray := prog_9_method_55_code
def yX7_weightWith : MethodName := ⟨RX7, "weightWith", "([II)I"⟩
abbrev cX7_balancedCut : ByteArray := prog_9_method_56_code
def yX7_balancedCut : MethodName := ⟨RX7, "balancedCut", "(I)I"⟩
abbrev cX7_expectedReach : ByteArray := prog_9_method_57_code
def yX7_expectedReach : MethodName := ⟨RX7, "expectedReach", "(II)J"⟩
abbrev cX7_observe : ByteArray := prog_9_method_58_code
def yX7_observe : MethodName := ⟨RX7, "observe", "(III)I"⟩
abbrev cX7_agrees : ByteArray := prog_9_method_59_code
def yX7_agrees : MethodName := ⟨RX7, "agrees", "([I)Z"⟩
abbrev cX7_possibleWeights : ByteArray := prog_9_method_60_code
def yX7_possibleWeights : MethodName := ⟨RX7, "possibleWeights", "(II)I"⟩
abbrev cX7_command : ByteArray := prog_9_method_61_code
def yX7_command : MethodName := ⟨RX7, "command", "(III)Z"⟩
abbrev cX7_hundredThousands : ByteArray := prog_9_method_62_code
def yX7_hundredThousands : MethodName := ⟨RX7, "hundredThousands", "(I)J"⟩
abbrev cX7_runScript : ByteArray := prog_9_method_63_code
def yX7_runScript : MethodName := ⟨RX7, "runScript", "(IJ)I"⟩
abbrev cX7_randomChanges : ByteArray := prog_9_method_64_code
def yX7_randomChanges : MethodName := ⟨RX7, "randomChanges", "(JI)I"⟩
abbrev cX7_save : ByteArray := prog_9_method_65_code
def yX7_save : MethodName := ⟨RX7, "save", "(I)I"⟩
abbrev cX7_restore : ByteArray := prog_9_method_66_code
def yX7_restore : MethodName := ⟨RX7, "restore", "(I)I"⟩
def RJ9 : String := "java/lang/Math"
def TJ9 : u_T := fun k => match k with
  | _ => ("", "", "", false)
def tyJ9 : Nat → FieldType := fun k => match k with
  | _ => .int
abbrev wsJ90 : List Cond := u_ws RJ9 TJ9 0
theorem nmJ9 : ∀ a, a < 0 → ∀ b, b < 0 → a ≠ b → (TJ9 a).2.1 ≠ (TJ9 b).2.1 := by decide +kernel
theorem tyJ9_ok : ∀ k, k < 0 → parseFieldDescriptor (TJ9 k).2.2.1 = some (tyJ9 k) := by decide +kernel
abbrev cJ9_max_7cf53 : ByteArray := prog_10_method_65_code
def yJ9_max_7cf53 : MethodName := ⟨RJ9, "max", "(II)I"⟩
abbrev cJ9_min_7cf53 : ByteArray := prog_10_method_69_code
def yJ9_min_7cf53 : MethodName := ⟨RJ9, "min", "(II)I"⟩
def RJ10 : String := "java/lang/System"
def TJ10 : u_T := fun k => match k with
  | _ => ("", "", "", false)
def tyJ10 : Nat → FieldType := fun k => match k with
  | _ => .int
abbrev wsJ100 : List Cond := u_ws RJ10 TJ10 0
theorem nmJ10 : ∀ a, a < 0 → ∀ b, b < 0 → a ≠ b → (TJ10 a).2.1 ≠ (TJ10 b).2.1 := by decide +kernel
theorem tyJ10_ok : ∀ k, k < 0 → parseFieldDescriptor (TJ10 k).2.2.1 = some (tyJ10 k) := by decide +kernel
def RJ7 : String := "java/util/Arrays"
def TJ7 : u_T := fun k => match k with
  | _ => ("", "", "", false)
def tyJ7 : Nat → FieldType := fun k => match k with
  | _ => .int
abbrev wsJ70 : List Cond := u_ws RJ7 TJ7 0
theorem nmJ7 : ∀ a, a < 0 → ∀ b, b < 0 → a ≠ b → (TJ7 a).2.1 ≠ (TJ7 b).2.1 := by decide +kernel
theorem tyJ7_ok : ∀ k, k < 0 → parseFieldDescriptor (TJ7 k).2.2.1 = some (tyJ7 k) := by decide +kernel
abbrev cJ7_fill_53178 : ByteArray := prog_12_method_103_code
def yJ7_fill_53178 : MethodName := ⟨RJ7, "fill", "([II)V"⟩
def RL : String := "WeightedForestLaw"
abbrev cL_law : ByteArray := code
def yL_law : MethodName := ⟨RL, "law", "([I)Z"⟩
abbrev vwCl : List vw_C := [(RX0, TX0, 7), (RX1, TX1, 3), (RX2, TX2, 3), (RX3, TX3, 5), (RX4, TX4, 4), (RX5, TX5, 3), (RX6, TX6, 10), (RX7, TX7, 24)]
end
section
theorem dX0_init_0 : decode cX0_init 0 = .ok (.aload_n 0, 1) := by decide +kernel
theorem dX0_init_1 : decode cX0_init 1 = .ok (.invokespecial 3, 3) := by decide +kernel
theorem dX0_init_4 : decode cX0_init 4 = .ok (.aload_n 0, 1) := by decide +kernel
theorem dX0_init_5 : decode cX0_init 5 = .ok (.bipush 12, 2) := by decide +kernel
theorem dX0_init_7 : decode cX0_init 7 = .ok (.newarray .boolean, 2) := by decide +kernel
theorem dX0_init_9 : decode cX0_init 9 = .ok (.putfield 9, 3) := by decide +kernel
theorem dX0_init_12 : decode cX0_init 12 = .ok (.aload_n 0, 1) := by decide +kernel
theorem dX0_init_13 : decode cX0_init 13 = .ok (.bipush 12, 2) := by decide +kernel
theorem dX0_init_15 : decode cX0_init 15 = .ok (.newarray .boolean, 2) := by decide +kernel
theorem dX0_init_17 : decode cX0_init 17 = .ok (.putfield 15, 3) := by decide +kernel
theorem dX0_init_20 : decode cX0_init 20 = .ok (.aload_n 0, 1) := by decide +kernel
theorem dX0_init_21 : decode cX0_init 21 = .ok (.bipush 12, 2) := by decide +kernel
theorem dX0_init_23 : decode cX0_init 23 = .ok (.newarray .int, 2) := by decide +kernel
theorem dX0_init_25 : decode cX0_init 25 = .ok (.putfield 18, 3) := by decide +kernel
theorem dX0_init_28 : decode cX0_init 28 = .ok (.aload_n 0, 1) := by decide +kernel
theorem dX0_init_29 : decode cX0_init 29 = .ok (.bipush 12, 2) := by decide +kernel
theorem dX0_init_31 : decode cX0_init 31 = .ok (.bipush 12, 2) := by decide +kernel
theorem dX0_init_33 : decode cX0_init 33 = .ok (.multianewarray 22 2, 4) := by decide +kernel
theorem dX0_init_37 : decode cX0_init 37 = .ok (.putfield 24, 3) := by decide +kernel
theorem dX0_init_40 : decode cX0_init 40 = .ok (.return_, 1) := by decide +kernel
theorem dX0_contract_0 : decode cX0_contract 0 = .ok (.aload_n 0, 1) := by decide +kernel
theorem dX0_contract_1 : decode cX0_contract 1 = .ok (.aload_n 1, 1) := by decide +kernel
theorem dX0_contract_2 : decode cX0_contract 2 = .ok (.invokevirtual 27, 3) := by decide +kernel
theorem dX0_contract_5 : decode cX0_contract 5 = .ok (.aload_n 0, 1) := by decide +kernel
theorem dX0_contract_6 : decode cX0_contract 6 = .ok (.iload_n 2, 1) := by decide +kernel
theorem dX0_contract_7 : decode cX0_contract 7 = .ok (.invokevirtual 31, 3) := by decide +kernel
theorem dX0_contract_10 : decode cX0_contract 10 = .ok (.aload_n 0, 1) := by decide +kernel
theorem dX0_contract_11 : decode cX0_contract 11 = .ok (.iconst 0, 1) := by decide +kernel
theorem dX0_contract_12 : decode cX0_contract 12 = .ok (.putfield 35, 3) := by decide +kernel
theorem dX0_contract_15 : decode cX0_contract 15 = .ok (.aload_n 0, 1) := by decide +kernel
theorem dX0_contract_16 : decode cX0_contract 16 = .ok (.getfield 39, 3) := by decide +kernel
theorem dX0_contract_19 : decode cX0_contract 19 = .ok (.iconst 1, 1) := by decide +kernel
theorem dX0_contract_20 : decode cX0_contract 20 = .ok (.if_icmp .le 33, 3) := by decide +kernel
theorem dX0_contract_23 : decode cX0_contract 23 = .ok (.aload_n 0, 1) := by decide +kernel
theorem dX0_contract_24 : decode cX0_contract 24 = .ok (.getfield 35, 3) := by decide +kernel
theorem dX0_contract_27 : decode cX0_contract 27 = .ok (.bipush 12, 2) := by decide +kernel
theorem dX0_contract_29 : decode cX0_contract 29 = .ok (.if_icmp .ge 24, 3) := by decide +kernel
theorem dX0_contract_32 : decode cX0_contract 32 = .ok (.aload_n 0, 1) := by decide +kernel
theorem dX0_contract_33 : decode cX0_contract 33 = .ok (.dup, 1) := by decide +kernel
theorem dX0_contract_34 : decode cX0_contract 34 = .ok (.getfield 35, 3) := by decide +kernel
theorem dX0_contract_37 : decode cX0_contract 37 = .ok (.iconst 1, 1) := by decide +kernel
theorem dX0_contract_38 : decode cX0_contract 38 = .ok (.iadd, 1) := by decide +kernel
theorem dX0_contract_39 : decode cX0_contract 39 = .ok (.putfield 35, 3) := by decide +kernel
theorem dX0_contract_42 : decode cX0_contract 42 = .ok (.aload_n 0, 1) := by decide +kernel
theorem dX0_contract_43 : decode cX0_contract 43 = .ok (.invokevirtual 42, 3) := by decide +kernel
theorem dX0_contract_46 : decode cX0_contract 46 = .ok (.aload_n 0, 1) := by decide +kernel
theorem dX0_contract_47 : decode cX0_contract 47 = .ok (.invokevirtual 45, 3) := by decide +kernel
theorem dX0_contract_50 : decode cX0_contract 50 = .ok (.goto (-35), 3) := by decide +kernel
theorem dX0_contract_53 : decode cX0_contract 53 = .ok (.return_, 1) := by decide +kernel
theorem dX0_roundCount_0 : decode cX0_roundCount 0 = .ok (.aload_n 0, 1) := by decide +kernel
theorem dX0_roundCount_1 : decode cX0_roundCount 1 = .ok (.getfield 35, 3) := by decide +kernel
theorem dX0_roundCount_4 : decode cX0_roundCount 4 = .ok (.ireturn, 1) := by decide +kernel
theorem dX0_roundOf_0 : decode cX0_roundOf 0 = .ok (.aload_n 0, 1) := by decide +kernel
theorem dX0_roundOf_1 : decode cX0_roundOf 1 = .ok (.iload_n 1, 1) := by decide +kernel
theorem dX0_roundOf_2 : decode cX0_roundOf 2 = .ok (.invokevirtual 48, 3) := by decide +kernel
theorem dX0_roundOf_5 : decode cX0_roundOf 5 = .ok (.ifCond .eq 12, 3) := by decide +kernel
theorem dX0_roundOf_8 : decode cX0_roundOf 8 = .ok (.aload_n 0, 1) := by decide +kernel
theorem dX0_roundOf_9 : decode cX0_roundOf 9 = .ok (.getfield 18, 3) := by decide +kernel
theorem dX0_roundOf_12 : decode cX0_roundOf 12 = .ok (.iload_n 1, 1) := by decide +kernel
theorem dX0_roundOf_13 : decode cX0_roundOf 13 = .ok (.iaload, 1) := by decide +kernel
theorem dX0_roundOf_14 : decode cX0_roundOf 14 = .ok (.goto 5, 3) := by decide +kernel
theorem dX0_roundOf_17 : decode cX0_roundOf 17 = .ok (.bipush (-9), 2) := by decide +kernel
theorem dX0_roundOf_19 : decode cX0_roundOf 19 = .ok (.ireturn, 1) := by decide +kernel
theorem dX0_lastVertex_0 : decode cX0_lastVertex 0 = .ok (.iconst 0, 1) := by decide +kernel
theorem dX0_lastVertex_1 : decode cX0_lastVertex 1 = .ok (.istore_n 1, 1) := by decide +kernel
theorem dX0_lastVertex_2 : decode cX0_lastVertex 2 = .ok (.iload_n 1, 1) := by decide +kernel
theorem dX0_lastVertex_3 : decode cX0_lastVertex 3 = .ok (.aload_n 0, 1) := by decide +kernel
theorem dX0_lastVertex_4 : decode cX0_lastVertex 4 = .ok (.getfield 52, 3) := by decide +kernel
theorem dX0_lastVertex_7 : decode cX0_lastVertex 7 = .ok (.if_icmp .ge 20, 3) := by decide +kernel
theorem dX0_lastVertex_10 : decode cX0_lastVertex 10 = .ok (.aload_n 0, 1) := by decide +kernel
theorem dX0_lastVertex_11 : decode cX0_lastVertex 11 = .ok (.getfield 9, 3) := by decide +kernel
theorem dX0_lastVertex_14 : decode cX0_lastVertex 14 = .ok (.iload_n 1, 1) := by decide +kernel
theorem dX0_lastVertex_15 : decode cX0_lastVertex 15 = .ok (.baload, 1) := by decide +kernel
theorem dX0_lastVertex_16 : decode cX0_lastVertex 16 = .ok (.ifCond .eq 5, 3) := by decide +kernel
theorem dX0_lastVertex_19 : decode cX0_lastVertex 19 = .ok (.iload_n 1, 1) := by decide +kernel
theorem dX0_lastVertex_20 : decode cX0_lastVertex 20 = .ok (.ireturn, 1) := by decide +kernel
theorem dX0_lastVertex_21 : decode cX0_lastVertex 21 = .ok (.iinc 1 1, 3) := by decide +kernel
theorem dX0_lastVertex_24 : decode cX0_lastVertex 24 = .ok (.goto (-22), 3) := by decide +kernel
theorem dX0_lastVertex_27 : decode cX0_lastVertex 27 = .ok (.bipush (-9), 2) := by decide +kernel
theorem dX0_lastVertex_29 : decode cX0_lastVertex 29 = .ok (.ireturn, 1) := by decide +kernel
theorem dX0_isVertex_0 : decode cX0_isVertex 0 = .ok (.iload_n 1, 1) := by decide +kernel
theorem dX0_isVertex_1 : decode cX0_isVertex 1 = .ok (.ifCond .lt 15, 3) := by decide +kernel
theorem dX0_isVertex_4 : decode cX0_isVertex 4 = .ok (.iload_n 1, 1) := by decide +kernel
theorem dX0_isVertex_5 : decode cX0_isVertex 5 = .ok (.aload_n 0, 1) := by decide +kernel
theorem dX0_isVertex_6 : decode cX0_isVertex 6 = .ok (.getfield 52, 3) := by decide +kernel
theorem dX0_isVertex_9 : decode cX0_isVertex 9 = .ok (.if_icmp .ge 7, 3) := by decide +kernel
theorem dX0_isVertex_12 : decode cX0_isVertex 12 = .ok (.iconst 1, 1) := by decide +kernel
theorem dX0_isVertex_13 : decode cX0_isVertex 13 = .ok (.goto 4, 3) := by decide +kernel
theorem dX0_isVertex_16 : decode cX0_isVertex 16 = .ok (.iconst 0, 1) := by decide +kernel
theorem dX0_isVertex_17 : decode cX0_isVertex 17 = .ok (.ireturn, 1) := by decide +kernel
theorem dX0_copyEdges_0 : decode cX0_copyEdges 0 = .ok (.aload_n 0, 1) := by decide +kernel
theorem dX0_copyEdges_1 : decode cX0_copyEdges 1 = .ok (.aload_n 1, 1) := by decide +kernel
theorem dX0_copyEdges_2 : decode cX0_copyEdges 2 = .ok (.invokevirtual 55, 3) := by decide +kernel
theorem dX0_copyEdges_5 : decode cX0_copyEdges 5 = .ok (.putfield 52, 3) := by decide +kernel
theorem dX0_copyEdges_8 : decode cX0_copyEdges 8 = .ok (.iconst 0, 1) := by decide +kernel
theorem dX0_copyEdges_9 : decode cX0_copyEdges 9 = .ok (.istore_n 2, 1) := by decide +kernel
theorem dX0_copyEdges_10 : decode cX0_copyEdges 10 = .ok (.iload_n 2, 1) := by decide +kernel
theorem dX0_copyEdges_11 : decode cX0_copyEdges 11 = .ok (.aload_n 0, 1) := by decide +kernel
theorem dX0_copyEdges_12 : decode cX0_copyEdges 12 = .ok (.getfield 52, 3) := by decide +kernel
theorem dX0_copyEdges_15 : decode cX0_copyEdges 15 = .ok (.if_icmp .ge 47, 3) := by decide +kernel
theorem dX0_copyEdges_18 : decode cX0_copyEdges 18 = .ok (.iconst 0, 1) := by decide +kernel
theorem dX0_copyEdges_19 : decode cX0_copyEdges 19 = .ok (.istore_n 3, 1) := by decide +kernel
theorem dX0_copyEdges_20 : decode cX0_copyEdges 20 = .ok (.iload_n 3, 1) := by decide +kernel
theorem dX0_copyEdges_21 : decode cX0_copyEdges 21 = .ok (.aload_n 0, 1) := by decide +kernel
theorem dX0_copyEdges_22 : decode cX0_copyEdges 22 = .ok (.getfield 52, 3) := by decide +kernel
theorem dX0_copyEdges_25 : decode cX0_copyEdges 25 = .ok (.if_icmp .ge 31, 3) := by decide +kernel
theorem dX0_copyEdges_28 : decode cX0_copyEdges 28 = .ok (.aload_n 0, 1) := by decide +kernel
theorem dX0_copyEdges_29 : decode cX0_copyEdges 29 = .ok (.getfield 24, 3) := by decide +kernel
theorem dX0_copyEdges_32 : decode cX0_copyEdges 32 = .ok (.iload_n 2, 1) := by decide +kernel
theorem dX0_copyEdges_33 : decode cX0_copyEdges 33 = .ok (.aaload, 1) := by decide +kernel
theorem dX0_copyEdges_34 : decode cX0_copyEdges 34 = .ok (.iload_n 3, 1) := by decide +kernel
theorem dX0_copyEdges_35 : decode cX0_copyEdges 35 = .ok (.aload_n 1, 1) := by decide +kernel
theorem dX0_copyEdges_36 : decode cX0_copyEdges 36 = .ok (.iload_n 2, 1) := by decide +kernel
theorem dX0_copyEdges_37 : decode cX0_copyEdges 37 = .ok (.iload_n 3, 1) := by decide +kernel
theorem dX0_copyEdges_38 : decode cX0_copyEdges 38 = .ok (.invokevirtual 61, 3) := by decide +kernel
theorem dX0_copyEdges_41 : decode cX0_copyEdges 41 = .ok (.ifCond .ne 7, 3) := by decide +kernel
theorem dX0_copyEdges_44 : decode cX0_copyEdges 44 = .ok (.iconst 0, 1) := by decide +kernel
theorem dX0_copyEdges_45 : decode cX0_copyEdges 45 = .ok (.goto 4, 3) := by decide +kernel
theorem dX0_copyEdges_48 : decode cX0_copyEdges 48 = .ok (.iconst 1, 1) := by decide +kernel
theorem dX0_copyEdges_49 : decode cX0_copyEdges 49 = .ok (.iastore, 1) := by decide +kernel
theorem dX0_copyEdges_50 : decode cX0_copyEdges 50 = .ok (.iinc 3 1, 3) := by decide +kernel
theorem dX0_copyEdges_53 : decode cX0_copyEdges 53 = .ok (.goto (-33), 3) := by decide +kernel
theorem dX0_copyEdges_56 : decode cX0_copyEdges 56 = .ok (.iinc 2 1, 3) := by decide +kernel
theorem dX0_copyEdges_59 : decode cX0_copyEdges 59 = .ok (.goto (-49), 3) := by decide +kernel
theorem dX0_copyEdges_62 : decode cX0_copyEdges 62 = .ok (.return_, 1) := by decide +kernel
theorem dX0_gatherTree_0 : decode cX0_gatherTree 0 = .ok (.iconst 0, 1) := by decide +kernel
theorem dX0_gatherTree_1 : decode cX0_gatherTree 1 = .ok (.istore_n 2, 1) := by decide +kernel
theorem dX0_gatherTree_2 : decode cX0_gatherTree 2 = .ok (.iload_n 2, 1) := by decide +kernel
theorem dX0_gatherTree_3 : decode cX0_gatherTree 3 = .ok (.bipush 12, 2) := by decide +kernel
theorem dX0_gatherTree_5 : decode cX0_gatherTree 5 = .ok (.if_icmp .ge 24, 3) := by decide +kernel
theorem dX0_gatherTree_8 : decode cX0_gatherTree 8 = .ok (.aload_n 0, 1) := by decide +kernel
theorem dX0_gatherTree_9 : decode cX0_gatherTree 9 = .ok (.getfield 9, 3) := by decide +kernel
theorem dX0_gatherTree_12 : decode cX0_gatherTree 12 = .ok (.iload_n 2, 1) := by decide +kernel
theorem dX0_gatherTree_13 : decode cX0_gatherTree 13 = .ok (.iconst 0, 1) := by decide +kernel
theorem dX0_gatherTree_14 : decode cX0_gatherTree 14 = .ok (.bastore, 1) := by decide +kernel
theorem dX0_gatherTree_15 : decode cX0_gatherTree 15 = .ok (.aload_n 0, 1) := by decide +kernel
theorem dX0_gatherTree_16 : decode cX0_gatherTree 16 = .ok (.getfield 18, 3) := by decide +kernel
theorem dX0_gatherTree_19 : decode cX0_gatherTree 19 = .ok (.iload_n 2, 1) := by decide +kernel
theorem dX0_gatherTree_20 : decode cX0_gatherTree 20 = .ok (.bipush (-9), 2) := by decide +kernel
theorem dX0_gatherTree_22 : decode cX0_gatherTree 22 = .ok (.iastore, 1) := by decide +kernel
theorem dX0_gatherTree_23 : decode cX0_gatherTree 23 = .ok (.iinc 2 1, 3) := by decide +kernel
theorem dX0_gatherTree_26 : decode cX0_gatherTree 26 = .ok (.goto (-24), 3) := by decide +kernel
theorem dX0_gatherTree_29 : decode cX0_gatherTree 29 = .ok (.aload_n 0, 1) := by decide +kernel
theorem dX0_gatherTree_30 : decode cX0_gatherTree 30 = .ok (.iconst 0, 1) := by decide +kernel
theorem dX0_gatherTree_31 : decode cX0_gatherTree 31 = .ok (.putfield 39, 3) := by decide +kernel
theorem dX0_gatherTree_34 : decode cX0_gatherTree 34 = .ok (.aload_n 0, 1) := by decide +kernel
theorem dX0_gatherTree_35 : decode cX0_gatherTree 35 = .ok (.iload_n 1, 1) := by decide +kernel
theorem dX0_gatherTree_36 : decode cX0_gatherTree 36 = .ok (.invokevirtual 48, 3) := by decide +kernel
theorem dX0_gatherTree_39 : decode cX0_gatherTree 39 = .ok (.ifCond .ne 4, 3) := by decide +kernel
theorem dX0_gatherTree_42 : decode cX0_gatherTree 42 = .ok (.return_, 1) := by decide +kernel
theorem dX0_gatherTree_43 : decode cX0_gatherTree 43 = .ok (.aload_n 0, 1) := by decide +kernel
theorem dX0_gatherTree_44 : decode cX0_gatherTree 44 = .ok (.getfield 9, 3) := by decide +kernel
theorem dX0_gatherTree_47 : decode cX0_gatherTree 47 = .ok (.iload_n 1, 1) := by decide +kernel
theorem dX0_gatherTree_48 : decode cX0_gatherTree 48 = .ok (.iconst 1, 1) := by decide +kernel
theorem dX0_gatherTree_49 : decode cX0_gatherTree 49 = .ok (.bastore, 1) := by decide +kernel
theorem dX0_gatherTree_50 : decode cX0_gatherTree 50 = .ok (.aload_n 0, 1) := by decide +kernel
theorem dX0_gatherTree_51 : decode cX0_gatherTree 51 = .ok (.iconst 1, 1) := by decide +kernel
theorem dX0_gatherTree_52 : decode cX0_gatherTree 52 = .ok (.putfield 39, 3) := by decide +kernel
theorem dX0_gatherTree_55 : decode cX0_gatherTree 55 = .ok (.iconst 0, 1) := by decide +kernel
theorem dX0_gatherTree_56 : decode cX0_gatherTree 56 = .ok (.istore_n 2, 1) := by decide +kernel
theorem dX0_gatherTree_57 : decode cX0_gatherTree 57 = .ok (.iload_n 2, 1) := by decide +kernel
theorem dX0_gatherTree_58 : decode cX0_gatherTree 58 = .ok (.aload_n 0, 1) := by decide +kernel
theorem dX0_gatherTree_59 : decode cX0_gatherTree 59 = .ok (.getfield 52, 3) := by decide +kernel
theorem dX0_gatherTree_62 : decode cX0_gatherTree 62 = .ok (.if_icmp .ge 13, 3) := by decide +kernel
theorem dX0_gatherTree_65 : decode cX0_gatherTree 65 = .ok (.aload_n 0, 1) := by decide +kernel
theorem dX0_gatherTree_66 : decode cX0_gatherTree 66 = .ok (.invokevirtual 65, 3) := by decide +kernel
theorem dX0_gatherTree_69 : decode cX0_gatherTree 69 = .ok (.iinc 2 1, 3) := by decide +kernel
theorem dX0_gatherTree_72 : decode cX0_gatherTree 72 = .ok (.goto (-15), 3) := by decide +kernel
theorem dX0_gatherTree_75 : decode cX0_gatherTree 75 = .ok (.return_, 1) := by decide +kernel
theorem dX0_gatherNeighbours_0 : decode cX0_gatherNeighbours 0 = .ok (.iconst 0, 1) := by decide +kernel
theorem dX0_gatherNeighbours_1 : decode cX0_gatherNeighbours 1 = .ok (.istore_n 1, 1) := by decide +kernel
theorem dX0_gatherNeighbours_2 : decode cX0_gatherNeighbours 2 = .ok (.iload_n 1, 1) := by decide +kernel
theorem dX0_gatherNeighbours_3 : decode cX0_gatherNeighbours 3 = .ok (.aload_n 0, 1) := by decide +kernel
theorem dX0_gatherNeighbours_4 : decode cX0_gatherNeighbours 4 = .ok (.getfield 52, 3) := by decide +kernel
theorem dX0_gatherNeighbours_7 : decode cX0_gatherNeighbours 7 = .ok (.if_icmp .ge 71, 3) := by decide +kernel
theorem dX0_gatherNeighbours_10 : decode cX0_gatherNeighbours 10 = .ok (.iconst 0, 1) := by decide +kernel
theorem dX0_gatherNeighbours_11 : decode cX0_gatherNeighbours 11 = .ok (.istore_n 2, 1) := by decide +kernel
theorem dX0_gatherNeighbours_12 : decode cX0_gatherNeighbours 12 = .ok (.iload_n 2, 1) := by decide +kernel
theorem dX0_gatherNeighbours_13 : decode cX0_gatherNeighbours 13 = .ok (.aload_n 0, 1) := by decide +kernel
theorem dX0_gatherNeighbours_14 : decode cX0_gatherNeighbours 14 = .ok (.getfield 52, 3) := by decide +kernel
theorem dX0_gatherNeighbours_17 : decode cX0_gatherNeighbours 17 = .ok (.if_icmp .ge 55, 3) := by decide +kernel
theorem dX0_gatherNeighbours_20 : decode cX0_gatherNeighbours 20 = .ok (.aload_n 0, 1) := by decide +kernel
theorem dX0_gatherNeighbours_21 : decode cX0_gatherNeighbours 21 = .ok (.getfield 9, 3) := by decide +kernel
theorem dX0_gatherNeighbours_24 : decode cX0_gatherNeighbours 24 = .ok (.iload_n 1, 1) := by decide +kernel
theorem dX0_gatherNeighbours_25 : decode cX0_gatherNeighbours 25 = .ok (.baload, 1) := by decide +kernel
theorem dX0_gatherNeighbours_26 : decode cX0_gatherNeighbours 26 = .ok (.ifCond .eq 40, 3) := by decide +kernel
theorem dX0_gatherNeighbours_29 : decode cX0_gatherNeighbours 29 = .ok (.aload_n 0, 1) := by decide +kernel
theorem dX0_gatherNeighbours_30 : decode cX0_gatherNeighbours 30 = .ok (.getfield 9, 3) := by decide +kernel
theorem dX0_gatherNeighbours_33 : decode cX0_gatherNeighbours 33 = .ok (.iload_n 2, 1) := by decide +kernel
theorem dX0_gatherNeighbours_34 : decode cX0_gatherNeighbours 34 = .ok (.baload, 1) := by decide +kernel
theorem dX0_gatherNeighbours_35 : decode cX0_gatherNeighbours 35 = .ok (.ifCond .ne 31, 3) := by decide +kernel
theorem dX0_gatherNeighbours_38 : decode cX0_gatherNeighbours 38 = .ok (.aload_n 0, 1) := by decide +kernel
theorem dX0_gatherNeighbours_39 : decode cX0_gatherNeighbours 39 = .ok (.getfield 24, 3) := by decide +kernel
theorem dX0_gatherNeighbours_42 : decode cX0_gatherNeighbours 42 = .ok (.iload_n 1, 1) := by decide +kernel
theorem dX0_gatherNeighbours_43 : decode cX0_gatherNeighbours 43 = .ok (.aaload, 1) := by decide +kernel
theorem dX0_gatherNeighbours_44 : decode cX0_gatherNeighbours 44 = .ok (.iload_n 2, 1) := by decide +kernel
theorem dX0_gatherNeighbours_45 : decode cX0_gatherNeighbours 45 = .ok (.iaload, 1) := by decide +kernel
theorem dX0_gatherNeighbours_46 : decode cX0_gatherNeighbours 46 = .ok (.ifCond .eq 20, 3) := by decide +kernel
theorem dX0_gatherNeighbours_49 : decode cX0_gatherNeighbours 49 = .ok (.aload_n 0, 1) := by decide +kernel
theorem dX0_gatherNeighbours_50 : decode cX0_gatherNeighbours 50 = .ok (.getfield 9, 3) := by decide +kernel
theorem dX0_gatherNeighbours_53 : decode cX0_gatherNeighbours 53 = .ok (.iload_n 2, 1) := by decide +kernel
theorem dX0_gatherNeighbours_54 : decode cX0_gatherNeighbours 54 = .ok (.iconst 1, 1) := by decide +kernel
theorem dX0_gatherNeighbours_55 : decode cX0_gatherNeighbours 55 = .ok (.bastore, 1) := by decide +kernel
theorem dX0_gatherNeighbours_56 : decode cX0_gatherNeighbours 56 = .ok (.aload_n 0, 1) := by decide +kernel
theorem dX0_gatherNeighbours_57 : decode cX0_gatherNeighbours 57 = .ok (.dup, 1) := by decide +kernel
theorem dX0_gatherNeighbours_58 : decode cX0_gatherNeighbours 58 = .ok (.getfield 39, 3) := by decide +kernel
theorem dX0_gatherNeighbours_61 : decode cX0_gatherNeighbours 61 = .ok (.iconst 1, 1) := by decide +kernel
theorem dX0_gatherNeighbours_62 : decode cX0_gatherNeighbours 62 = .ok (.iadd, 1) := by decide +kernel
theorem dX0_gatherNeighbours_63 : decode cX0_gatherNeighbours 63 = .ok (.putfield 39, 3) := by decide +kernel
theorem dX0_gatherNeighbours_66 : decode cX0_gatherNeighbours 66 = .ok (.iinc 2 1, 3) := by decide +kernel
theorem dX0_gatherNeighbours_69 : decode cX0_gatherNeighbours 69 = .ok (.goto (-57), 3) := by decide +kernel
theorem dX0_gatherNeighbours_72 : decode cX0_gatherNeighbours 72 = .ok (.iinc 1 1, 3) := by decide +kernel
theorem dX0_gatherNeighbours_75 : decode cX0_gatherNeighbours 75 = .ok (.goto (-73), 3) := by decide +kernel
theorem dX0_gatherNeighbours_78 : decode cX0_gatherNeighbours 78 = .ok (.return_, 1) := by decide +kernel
theorem dX0_rake_0 : decode cX0_rake 0 = .ok (.aload_n 0, 1) := by decide +kernel
theorem dX0_rake_1 : decode cX0_rake 1 = .ok (.getfield 39, 3) := by decide +kernel
theorem dX0_rake_4 : decode cX0_rake 4 = .ok (.iconst 2, 1) := by decide +kernel
theorem dX0_rake_5 : decode cX0_rake 5 = .ok (.if_icmp .ne 8, 3) := by decide +kernel
theorem dX0_rake_8 : decode cX0_rake 8 = .ok (.aload_n 0, 1) := by decide +kernel
theorem dX0_rake_9 : decode cX0_rake 9 = .ok (.invokevirtual 68, 3) := by decide +kernel
theorem dX0_rake_12 : decode cX0_rake 12 = .ok (.return_, 1) := by decide +kernel
theorem dX0_rake_13 : decode cX0_rake 13 = .ok (.iconst 0, 1) := by decide +kernel
theorem dX0_rake_14 : decode cX0_rake 14 = .ok (.istore_n 1, 1) := by decide +kernel
theorem dX0_rake_15 : decode cX0_rake 15 = .ok (.iload_n 1, 1) := by decide +kernel
theorem dX0_rake_16 : decode cX0_rake 16 = .ok (.aload_n 0, 1) := by decide +kernel
theorem dX0_rake_17 : decode cX0_rake 17 = .ok (.getfield 52, 3) := by decide +kernel
theorem dX0_rake_20 : decode cX0_rake 20 = .ok (.if_icmp .ge 38, 3) := by decide +kernel
theorem dX0_rake_23 : decode cX0_rake 23 = .ok (.aload_n 0, 1) := by decide +kernel
theorem dX0_rake_24 : decode cX0_rake 24 = .ok (.getfield 15, 3) := by decide +kernel
theorem dX0_rake_27 : decode cX0_rake 27 = .ok (.iload_n 1, 1) := by decide +kernel
theorem dX0_rake_28 : decode cX0_rake 28 = .ok (.aload_n 0, 1) := by decide +kernel
theorem dX0_rake_29 : decode cX0_rake 29 = .ok (.getfield 9, 3) := by decide +kernel
theorem dX0_rake_32 : decode cX0_rake 32 = .ok (.iload_n 1, 1) := by decide +kernel
theorem dX0_rake_33 : decode cX0_rake 33 = .ok (.baload, 1) := by decide +kernel
theorem dX0_rake_34 : decode cX0_rake 34 = .ok (.ifCond .eq 16, 3) := by decide +kernel
theorem dX0_rake_37 : decode cX0_rake 37 = .ok (.aload_n 0, 1) := by decide +kernel
theorem dX0_rake_38 : decode cX0_rake 38 = .ok (.iload_n 1, 1) := by decide +kernel
theorem dX0_rake_39 : decode cX0_rake 39 = .ok (.invokevirtual 71, 3) := by decide +kernel
theorem dX0_rake_42 : decode cX0_rake 42 = .ok (.iconst 1, 1) := by decide +kernel
theorem dX0_rake_43 : decode cX0_rake 43 = .ok (.if_icmp .ne 7, 3) := by decide +kernel
theorem dX0_rake_46 : decode cX0_rake 46 = .ok (.iconst 1, 1) := by decide +kernel
theorem dX0_rake_47 : decode cX0_rake 47 = .ok (.goto 4, 3) := by decide +kernel
theorem dX0_rake_50 : decode cX0_rake 50 = .ok (.iconst 0, 1) := by decide +kernel
theorem dX0_rake_51 : decode cX0_rake 51 = .ok (.bastore, 1) := by decide +kernel
theorem dX0_rake_52 : decode cX0_rake 52 = .ok (.iinc 1 1, 3) := by decide +kernel
theorem dX0_rake_55 : decode cX0_rake 55 = .ok (.goto (-40), 3) := by decide +kernel
theorem dX0_rake_58 : decode cX0_rake 58 = .ok (.iconst 0, 1) := by decide +kernel
theorem dX0_rake_59 : decode cX0_rake 59 = .ok (.istore_n 1, 1) := by decide +kernel
theorem dX0_rake_60 : decode cX0_rake 60 = .ok (.iload_n 1, 1) := by decide +kernel
theorem dX0_rake_61 : decode cX0_rake 61 = .ok (.aload_n 0, 1) := by decide +kernel
theorem dX0_rake_62 : decode cX0_rake 62 = .ok (.getfield 52, 3) := by decide +kernel
theorem dX0_rake_65 : decode cX0_rake 65 = .ok (.if_icmp .ge 23, 3) := by decide +kernel
theorem dX0_rake_68 : decode cX0_rake 68 = .ok (.aload_n 0, 1) := by decide +kernel
theorem dX0_rake_69 : decode cX0_rake 69 = .ok (.getfield 15, 3) := by decide +kernel
theorem dX0_rake_72 : decode cX0_rake 72 = .ok (.iload_n 1, 1) := by decide +kernel
theorem dX0_rake_73 : decode cX0_rake 73 = .ok (.baload, 1) := by decide +kernel
theorem dX0_rake_74 : decode cX0_rake 74 = .ok (.ifCond .eq 8, 3) := by decide +kernel
theorem dX0_rake_77 : decode cX0_rake 77 = .ok (.aload_n 0, 1) := by decide +kernel
theorem dX0_rake_78 : decode cX0_rake 78 = .ok (.iload_n 1, 1) := by decide +kernel
theorem dX0_rake_79 : decode cX0_rake 79 = .ok (.invokevirtual 75, 3) := by decide +kernel
theorem dX0_rake_82 : decode cX0_rake 82 = .ok (.iinc 1 1, 3) := by decide +kernel
theorem dX0_rake_85 : decode cX0_rake 85 = .ok (.goto (-25), 3) := by decide +kernel
theorem dX0_rake_88 : decode cX0_rake 88 = .ok (.return_, 1) := by decide +kernel
theorem dX0_removeGreatest_0 : decode cX0_removeGreatest 0 = .ok (.aload_n 0, 1) := by decide +kernel
theorem dX0_removeGreatest_1 : decode cX0_removeGreatest 1 = .ok (.getfield 52, 3) := by decide +kernel
theorem dX0_removeGreatest_4 : decode cX0_removeGreatest 4 = .ok (.iconst 1, 1) := by decide +kernel
theorem dX0_removeGreatest_5 : decode cX0_removeGreatest 5 = .ok (.isub, 1) := by decide +kernel
theorem dX0_removeGreatest_6 : decode cX0_removeGreatest 6 = .ok (.istore_n 1, 1) := by decide +kernel
theorem dX0_removeGreatest_7 : decode cX0_removeGreatest 7 = .ok (.iload_n 1, 1) := by decide +kernel
theorem dX0_removeGreatest_8 : decode cX0_removeGreatest 8 = .ok (.ifCond .lt 24, 3) := by decide +kernel
theorem dX0_removeGreatest_11 : decode cX0_removeGreatest 11 = .ok (.aload_n 0, 1) := by decide +kernel
theorem dX0_removeGreatest_12 : decode cX0_removeGreatest 12 = .ok (.getfield 9, 3) := by decide +kernel
theorem dX0_removeGreatest_15 : decode cX0_removeGreatest 15 = .ok (.iload_n 1, 1) := by decide +kernel
theorem dX0_removeGreatest_16 : decode cX0_removeGreatest 16 = .ok (.baload, 1) := by decide +kernel
theorem dX0_removeGreatest_17 : decode cX0_removeGreatest 17 = .ok (.ifCond .eq 9, 3) := by decide +kernel
theorem dX0_removeGreatest_20 : decode cX0_removeGreatest 20 = .ok (.aload_n 0, 1) := by decide +kernel
theorem dX0_removeGreatest_21 : decode cX0_removeGreatest 21 = .ok (.iload_n 1, 1) := by decide +kernel
theorem dX0_removeGreatest_22 : decode cX0_removeGreatest 22 = .ok (.invokevirtual 75, 3) := by decide +kernel
theorem dX0_removeGreatest_25 : decode cX0_removeGreatest 25 = .ok (.return_, 1) := by decide +kernel
theorem dX0_removeGreatest_26 : decode cX0_removeGreatest 26 = .ok (.iinc 1 (-1), 3) := by decide +kernel
theorem dX0_removeGreatest_29 : decode cX0_removeGreatest 29 = .ok (.goto (-22), 3) := by decide +kernel
theorem dX0_removeGreatest_32 : decode cX0_removeGreatest 32 = .ok (.return_, 1) := by decide +kernel
theorem dX0_compress_0 : decode cX0_compress 0 = .ok (.aload_n 0, 1) := by decide +kernel
theorem dX0_compress_1 : decode cX0_compress 1 = .ok (.invokevirtual 78, 3) := by decide +kernel
theorem dX0_compress_4 : decode cX0_compress 4 = .ok (.iconst 0, 1) := by decide +kernel
theorem dX0_compress_5 : decode cX0_compress 5 = .ok (.istore_n 1, 1) := by decide +kernel
theorem dX0_compress_6 : decode cX0_compress 6 = .ok (.iload_n 1, 1) := by decide +kernel
theorem dX0_compress_7 : decode cX0_compress 7 = .ok (.aload_n 0, 1) := by decide +kernel
theorem dX0_compress_8 : decode cX0_compress 8 = .ok (.getfield 52, 3) := by decide +kernel
theorem dX0_compress_11 : decode cX0_compress 11 = .ok (.if_icmp .ge 32, 3) := by decide +kernel
theorem dX0_compress_14 : decode cX0_compress 14 = .ok (.aload_n 0, 1) := by decide +kernel
theorem dX0_compress_15 : decode cX0_compress 15 = .ok (.getfield 9, 3) := by decide +kernel
theorem dX0_compress_18 : decode cX0_compress 18 = .ok (.iload_n 1, 1) := by decide +kernel
theorem dX0_compress_19 : decode cX0_compress 19 = .ok (.baload, 1) := by decide +kernel
theorem dX0_compress_20 : decode cX0_compress 20 = .ok (.ifCond .eq 17, 3) := by decide +kernel
theorem dX0_compress_23 : decode cX0_compress 23 = .ok (.aload_n 0, 1) := by decide +kernel
theorem dX0_compress_24 : decode cX0_compress 24 = .ok (.iload_n 1, 1) := by decide +kernel
theorem dX0_compress_25 : decode cX0_compress 25 = .ok (.invokevirtual 71, 3) := by decide +kernel
theorem dX0_compress_28 : decode cX0_compress 28 = .ok (.iconst 2, 1) := by decide +kernel
theorem dX0_compress_29 : decode cX0_compress 29 = .ok (.if_icmp .ne 8, 3) := by decide +kernel
theorem dX0_compress_32 : decode cX0_compress 32 = .ok (.aload_n 0, 1) := by decide +kernel
theorem dX0_compress_33 : decode cX0_compress 33 = .ok (.iload_n 1, 1) := by decide +kernel
theorem dX0_compress_34 : decode cX0_compress 34 = .ok (.invokevirtual 81, 3) := by decide +kernel
theorem dX0_compress_37 : decode cX0_compress 37 = .ok (.iinc 1 1, 3) := by decide +kernel
theorem dX0_compress_40 : decode cX0_compress 40 = .ok (.goto (-34), 3) := by decide +kernel
theorem dX0_compress_43 : decode cX0_compress 43 = .ok (.return_, 1) := by decide +kernel
theorem dX0_makeEdgesOld_0 : decode cX0_makeEdgesOld 0 = .ok (.iconst 0, 1) := by decide +kernel
theorem dX0_makeEdgesOld_1 : decode cX0_makeEdgesOld 1 = .ok (.istore_n 1, 1) := by decide +kernel
theorem dX0_makeEdgesOld_2 : decode cX0_makeEdgesOld 2 = .ok (.iload_n 1, 1) := by decide +kernel
theorem dX0_makeEdgesOld_3 : decode cX0_makeEdgesOld 3 = .ok (.aload_n 0, 1) := by decide +kernel
theorem dX0_makeEdgesOld_4 : decode cX0_makeEdgesOld 4 = .ok (.getfield 52, 3) := by decide +kernel
theorem dX0_makeEdgesOld_7 : decode cX0_makeEdgesOld 7 = .ok (.if_icmp .ge 45, 3) := by decide +kernel
theorem dX0_makeEdgesOld_10 : decode cX0_makeEdgesOld 10 = .ok (.iconst 0, 1) := by decide +kernel
theorem dX0_makeEdgesOld_11 : decode cX0_makeEdgesOld 11 = .ok (.istore_n 2, 1) := by decide +kernel
theorem dX0_makeEdgesOld_12 : decode cX0_makeEdgesOld 12 = .ok (.iload_n 2, 1) := by decide +kernel
theorem dX0_makeEdgesOld_13 : decode cX0_makeEdgesOld 13 = .ok (.aload_n 0, 1) := by decide +kernel
theorem dX0_makeEdgesOld_14 : decode cX0_makeEdgesOld 14 = .ok (.getfield 52, 3) := by decide +kernel
theorem dX0_makeEdgesOld_17 : decode cX0_makeEdgesOld 17 = .ok (.if_icmp .ge 29, 3) := by decide +kernel
theorem dX0_makeEdgesOld_20 : decode cX0_makeEdgesOld 20 = .ok (.aload_n 0, 1) := by decide +kernel
theorem dX0_makeEdgesOld_21 : decode cX0_makeEdgesOld 21 = .ok (.getfield 24, 3) := by decide +kernel
theorem dX0_makeEdgesOld_24 : decode cX0_makeEdgesOld 24 = .ok (.iload_n 1, 1) := by decide +kernel
theorem dX0_makeEdgesOld_25 : decode cX0_makeEdgesOld 25 = .ok (.aaload, 1) := by decide +kernel
theorem dX0_makeEdgesOld_26 : decode cX0_makeEdgesOld 26 = .ok (.iload_n 2, 1) := by decide +kernel
theorem dX0_makeEdgesOld_27 : decode cX0_makeEdgesOld 27 = .ok (.aload_n 0, 1) := by decide +kernel
theorem dX0_makeEdgesOld_28 : decode cX0_makeEdgesOld 28 = .ok (.getfield 24, 3) := by decide +kernel
theorem dX0_makeEdgesOld_31 : decode cX0_makeEdgesOld 31 = .ok (.iload_n 1, 1) := by decide +kernel
theorem dX0_makeEdgesOld_32 : decode cX0_makeEdgesOld 32 = .ok (.aaload, 1) := by decide +kernel
theorem dX0_makeEdgesOld_33 : decode cX0_makeEdgesOld 33 = .ok (.iload_n 2, 1) := by decide +kernel
theorem dX0_makeEdgesOld_34 : decode cX0_makeEdgesOld 34 = .ok (.iaload, 1) := by decide +kernel
theorem dX0_makeEdgesOld_35 : decode cX0_makeEdgesOld 35 = .ok (.iconst 1, 1) := by decide +kernel
theorem dX0_makeEdgesOld_36 : decode cX0_makeEdgesOld 36 = .ok (.invokestatic 84, 3) := by decide +kernel
theorem dX0_makeEdgesOld_39 : decode cX0_makeEdgesOld 39 = .ok (.iastore, 1) := by decide +kernel
theorem dX0_makeEdgesOld_40 : decode cX0_makeEdgesOld 40 = .ok (.iinc 2 1, 3) := by decide +kernel
theorem dX0_makeEdgesOld_43 : decode cX0_makeEdgesOld 43 = .ok (.goto (-31), 3) := by decide +kernel
theorem dX0_makeEdgesOld_46 : decode cX0_makeEdgesOld 46 = .ok (.iinc 1 1, 3) := by decide +kernel
theorem dX0_makeEdgesOld_49 : decode cX0_makeEdgesOld 49 = .ok (.goto (-47), 3) := by decide +kernel
theorem dX0_makeEdgesOld_52 : decode cX0_makeEdgesOld 52 = .ok (.return_, 1) := by decide +kernel
theorem dX0_bypass_0 : decode cX0_bypass 0 = .ok (.aload_n 0, 1) := by decide +kernel
theorem dX0_bypass_1 : decode cX0_bypass 1 = .ok (.iload_n 1, 1) := by decide +kernel
theorem dX0_bypass_2 : decode cX0_bypass 2 = .ok (.iconst (-1), 1) := by decide +kernel
theorem dX0_bypass_3 : decode cX0_bypass 3 = .ok (.invokevirtual 89, 3) := by decide +kernel
theorem dX0_bypass_6 : decode cX0_bypass 6 = .ok (.istore_n 2, 1) := by decide +kernel
theorem dX0_bypass_7 : decode cX0_bypass 7 = .ok (.aload_n 0, 1) := by decide +kernel
theorem dX0_bypass_8 : decode cX0_bypass 8 = .ok (.iload_n 1, 1) := by decide +kernel
theorem dX0_bypass_9 : decode cX0_bypass 9 = .ok (.iload_n 2, 1) := by decide +kernel
theorem dX0_bypass_10 : decode cX0_bypass 10 = .ok (.invokevirtual 89, 3) := by decide +kernel
theorem dX0_bypass_13 : decode cX0_bypass 13 = .ok (.istore_n 3, 1) := by decide +kernel
theorem dX0_bypass_14 : decode cX0_bypass 14 = .ok (.aload_n 0, 1) := by decide +kernel
theorem dX0_bypass_15 : decode cX0_bypass 15 = .ok (.iload_n 2, 1) := by decide +kernel
theorem dX0_bypass_16 : decode cX0_bypass 16 = .ok (.invokevirtual 48, 3) := by decide +kernel
theorem dX0_bypass_19 : decode cX0_bypass 19 = .ok (.ifCond .eq 11, 3) := by decide +kernel
theorem dX0_bypass_22 : decode cX0_bypass 22 = .ok (.aload_n 0, 1) := by decide +kernel
theorem dX0_bypass_23 : decode cX0_bypass 23 = .ok (.iload_n 3, 1) := by decide +kernel
theorem dX0_bypass_24 : decode cX0_bypass 24 = .ok (.invokevirtual 48, 3) := by decide +kernel
theorem dX0_bypass_27 : decode cX0_bypass 27 = .ok (.ifCond .ne 4, 3) := by decide +kernel
theorem dX0_bypass_30 : decode cX0_bypass 30 = .ok (.return_, 1) := by decide +kernel
theorem dX0_bypass_31 : decode cX0_bypass 31 = .ok (.aload_n 0, 1) := by decide +kernel
theorem dX0_bypass_32 : decode cX0_bypass 32 = .ok (.getfield 24, 3) := by decide +kernel
theorem dX0_bypass_35 : decode cX0_bypass 35 = .ok (.iload_n 1, 1) := by decide +kernel
theorem dX0_bypass_36 : decode cX0_bypass 36 = .ok (.aaload, 1) := by decide +kernel
theorem dX0_bypass_37 : decode cX0_bypass 37 = .ok (.iload_n 2, 1) := by decide +kernel
theorem dX0_bypass_38 : decode cX0_bypass 38 = .ok (.iaload, 1) := by decide +kernel
theorem dX0_bypass_39 : decode cX0_bypass 39 = .ok (.iconst 2, 1) := by decide +kernel
theorem dX0_bypass_40 : decode cX0_bypass 40 = .ok (.if_icmp .eq 15, 3) := by decide +kernel
theorem dX0_bypass_43 : decode cX0_bypass 43 = .ok (.aload_n 0, 1) := by decide +kernel
theorem dX0_bypass_44 : decode cX0_bypass 44 = .ok (.getfield 24, 3) := by decide +kernel
theorem dX0_bypass_47 : decode cX0_bypass 47 = .ok (.iload_n 1, 1) := by decide +kernel
theorem dX0_bypass_48 : decode cX0_bypass 48 = .ok (.aaload, 1) := by decide +kernel
theorem dX0_bypass_49 : decode cX0_bypass 49 = .ok (.iload_n 3, 1) := by decide +kernel
theorem dX0_bypass_50 : decode cX0_bypass 50 = .ok (.iaload, 1) := by decide +kernel
theorem dX0_bypass_51 : decode cX0_bypass 51 = .ok (.iconst 2, 1) := by decide +kernel
theorem dX0_bypass_52 : decode cX0_bypass 52 = .ok (.if_icmp .ne 4, 3) := by decide +kernel
theorem dX0_bypass_55 : decode cX0_bypass 55 = .ok (.return_, 1) := by decide +kernel
theorem dX0_bypass_56 : decode cX0_bypass 56 = .ok (.aload_n 0, 1) := by decide +kernel
theorem dX0_bypass_57 : decode cX0_bypass 57 = .ok (.iload_n 1, 1) := by decide +kernel
theorem dX0_bypass_58 : decode cX0_bypass 58 = .ok (.invokevirtual 75, 3) := by decide +kernel
theorem dX0_bypass_61 : decode cX0_bypass 61 = .ok (.aload_n 0, 1) := by decide +kernel
theorem dX0_bypass_62 : decode cX0_bypass 62 = .ok (.getfield 24, 3) := by decide +kernel
theorem dX0_bypass_65 : decode cX0_bypass 65 = .ok (.iload_n 2, 1) := by decide +kernel
theorem dX0_bypass_66 : decode cX0_bypass 66 = .ok (.aaload, 1) := by decide +kernel
theorem dX0_bypass_67 : decode cX0_bypass 67 = .ok (.iload_n 3, 1) := by decide +kernel
theorem dX0_bypass_68 : decode cX0_bypass 68 = .ok (.iconst 2, 1) := by decide +kernel
theorem dX0_bypass_69 : decode cX0_bypass 69 = .ok (.iastore, 1) := by decide +kernel
theorem dX0_bypass_70 : decode cX0_bypass 70 = .ok (.aload_n 0, 1) := by decide +kernel
theorem dX0_bypass_71 : decode cX0_bypass 71 = .ok (.getfield 24, 3) := by decide +kernel
theorem dX0_bypass_74 : decode cX0_bypass 74 = .ok (.iload_n 3, 1) := by decide +kernel
theorem dX0_bypass_75 : decode cX0_bypass 75 = .ok (.aaload, 1) := by decide +kernel
theorem dX0_bypass_76 : decode cX0_bypass 76 = .ok (.iload_n 2, 1) := by decide +kernel
theorem dX0_bypass_77 : decode cX0_bypass 77 = .ok (.iconst 2, 1) := by decide +kernel
theorem dX0_bypass_78 : decode cX0_bypass 78 = .ok (.iastore, 1) := by decide +kernel
theorem dX0_bypass_79 : decode cX0_bypass 79 = .ok (.return_, 1) := by decide +kernel
theorem dX0_neighbourAfter_0 : decode cX0_neighbourAfter 0 = .ok (.iload_n 2, 1) := by decide +kernel
theorem dX0_neighbourAfter_1 : decode cX0_neighbourAfter 1 = .ok (.iconst 1, 1) := by decide +kernel
theorem dX0_neighbourAfter_2 : decode cX0_neighbourAfter 2 = .ok (.iadd, 1) := by decide +kernel
theorem dX0_neighbourAfter_3 : decode cX0_neighbourAfter 3 = .ok (.istore_n 3, 1) := by decide +kernel
theorem dX0_neighbourAfter_4 : decode cX0_neighbourAfter 4 = .ok (.iload_n 3, 1) := by decide +kernel
theorem dX0_neighbourAfter_5 : decode cX0_neighbourAfter 5 = .ok (.aload_n 0, 1) := by decide +kernel
theorem dX0_neighbourAfter_6 : decode cX0_neighbourAfter 6 = .ok (.getfield 52, 3) := by decide +kernel
theorem dX0_neighbourAfter_9 : decode cX0_neighbourAfter 9 = .ok (.if_icmp .ge 26, 3) := by decide +kernel
theorem dX0_neighbourAfter_12 : decode cX0_neighbourAfter 12 = .ok (.iload_n 3, 1) := by decide +kernel
theorem dX0_neighbourAfter_13 : decode cX0_neighbourAfter 13 = .ok (.ifCond .lt 16, 3) := by decide +kernel
theorem dX0_neighbourAfter_16 : decode cX0_neighbourAfter 16 = .ok (.aload_n 0, 1) := by decide +kernel
theorem dX0_neighbourAfter_17 : decode cX0_neighbourAfter 17 = .ok (.getfield 24, 3) := by decide +kernel
theorem dX0_neighbourAfter_20 : decode cX0_neighbourAfter 20 = .ok (.iload_n 1, 1) := by decide +kernel
theorem dX0_neighbourAfter_21 : decode cX0_neighbourAfter 21 = .ok (.aaload, 1) := by decide +kernel
theorem dX0_neighbourAfter_22 : decode cX0_neighbourAfter 22 = .ok (.iload_n 3, 1) := by decide +kernel
theorem dX0_neighbourAfter_23 : decode cX0_neighbourAfter 23 = .ok (.iaload, 1) := by decide +kernel
theorem dX0_neighbourAfter_24 : decode cX0_neighbourAfter 24 = .ok (.ifCond .eq 5, 3) := by decide +kernel
theorem dX0_neighbourAfter_27 : decode cX0_neighbourAfter 27 = .ok (.iload_n 3, 1) := by decide +kernel
theorem dX0_neighbourAfter_28 : decode cX0_neighbourAfter 28 = .ok (.ireturn, 1) := by decide +kernel
theorem dX0_neighbourAfter_29 : decode cX0_neighbourAfter 29 = .ok (.iinc 3 1, 3) := by decide +kernel
theorem dX0_neighbourAfter_32 : decode cX0_neighbourAfter 32 = .ok (.goto (-28), 3) := by decide +kernel
theorem dX0_neighbourAfter_35 : decode cX0_neighbourAfter 35 = .ok (.bipush (-9), 2) := by decide +kernel
theorem dX0_neighbourAfter_37 : decode cX0_neighbourAfter 37 = .ok (.ireturn, 1) := by decide +kernel
theorem dX0_degreeOf_0 : decode cX0_degreeOf 0 = .ok (.iconst 0, 1) := by decide +kernel
theorem dX0_degreeOf_1 : decode cX0_degreeOf 1 = .ok (.istore_n 2, 1) := by decide +kernel
theorem dX0_degreeOf_2 : decode cX0_degreeOf 2 = .ok (.iconst 0, 1) := by decide +kernel
theorem dX0_degreeOf_3 : decode cX0_degreeOf 3 = .ok (.istore_n 3, 1) := by decide +kernel
theorem dX0_degreeOf_4 : decode cX0_degreeOf 4 = .ok (.iload_n 3, 1) := by decide +kernel
theorem dX0_degreeOf_5 : decode cX0_degreeOf 5 = .ok (.aload_n 0, 1) := by decide +kernel
theorem dX0_degreeOf_6 : decode cX0_degreeOf 6 = .ok (.getfield 52, 3) := by decide +kernel
theorem dX0_degreeOf_9 : decode cX0_degreeOf 9 = .ok (.if_icmp .ge 23, 3) := by decide +kernel
theorem dX0_degreeOf_12 : decode cX0_degreeOf 12 = .ok (.aload_n 0, 1) := by decide +kernel
theorem dX0_degreeOf_13 : decode cX0_degreeOf 13 = .ok (.getfield 24, 3) := by decide +kernel
theorem dX0_degreeOf_16 : decode cX0_degreeOf 16 = .ok (.iload_n 1, 1) := by decide +kernel
theorem dX0_degreeOf_17 : decode cX0_degreeOf 17 = .ok (.aaload, 1) := by decide +kernel
theorem dX0_degreeOf_18 : decode cX0_degreeOf 18 = .ok (.iload_n 3, 1) := by decide +kernel
theorem dX0_degreeOf_19 : decode cX0_degreeOf 19 = .ok (.iaload, 1) := by decide +kernel
theorem dX0_degreeOf_20 : decode cX0_degreeOf 20 = .ok (.ifCond .eq 6, 3) := by decide +kernel
theorem dX0_degreeOf_23 : decode cX0_degreeOf 23 = .ok (.iinc 2 1, 3) := by decide +kernel
theorem dX0_degreeOf_26 : decode cX0_degreeOf 26 = .ok (.iinc 3 1, 3) := by decide +kernel
theorem dX0_degreeOf_29 : decode cX0_degreeOf 29 = .ok (.goto (-25), 3) := by decide +kernel
theorem dX0_degreeOf_32 : decode cX0_degreeOf 32 = .ok (.iload_n 2, 1) := by decide +kernel
theorem dX0_degreeOf_33 : decode cX0_degreeOf 33 = .ok (.ireturn, 1) := by decide +kernel
theorem dX0_remove_0 : decode cX0_remove 0 = .ok (.aload_n 0, 1) := by decide +kernel
theorem dX0_remove_1 : decode cX0_remove 1 = .ok (.getfield 9, 3) := by decide +kernel
theorem dX0_remove_4 : decode cX0_remove 4 = .ok (.iload_n 1, 1) := by decide +kernel
theorem dX0_remove_5 : decode cX0_remove 5 = .ok (.iconst 0, 1) := by decide +kernel
theorem dX0_remove_6 : decode cX0_remove 6 = .ok (.bastore, 1) := by decide +kernel
theorem dX0_remove_7 : decode cX0_remove 7 = .ok (.aload_n 0, 1) := by decide +kernel
theorem dX0_remove_8 : decode cX0_remove 8 = .ok (.getfield 18, 3) := by decide +kernel
theorem dX0_remove_11 : decode cX0_remove 11 = .ok (.iload_n 1, 1) := by decide +kernel
theorem dX0_remove_12 : decode cX0_remove 12 = .ok (.aload_n 0, 1) := by decide +kernel
theorem dX0_remove_13 : decode cX0_remove 13 = .ok (.getfield 35, 3) := by decide +kernel
theorem dX0_remove_16 : decode cX0_remove 16 = .ok (.iastore, 1) := by decide +kernel
theorem dX0_remove_17 : decode cX0_remove 17 = .ok (.aload_n 0, 1) := by decide +kernel
theorem dX0_remove_18 : decode cX0_remove 18 = .ok (.dup, 1) := by decide +kernel
theorem dX0_remove_19 : decode cX0_remove 19 = .ok (.getfield 39, 3) := by decide +kernel
theorem dX0_remove_22 : decode cX0_remove 22 = .ok (.iconst 1, 1) := by decide +kernel
theorem dX0_remove_23 : decode cX0_remove 23 = .ok (.isub, 1) := by decide +kernel
theorem dX0_remove_24 : decode cX0_remove 24 = .ok (.putfield 39, 3) := by decide +kernel
theorem dX0_remove_27 : decode cX0_remove 27 = .ok (.iconst 0, 1) := by decide +kernel
theorem dX0_remove_28 : decode cX0_remove 28 = .ok (.istore_n 2, 1) := by decide +kernel
theorem dX0_remove_29 : decode cX0_remove 29 = .ok (.iload_n 2, 1) := by decide +kernel
theorem dX0_remove_30 : decode cX0_remove 30 = .ok (.aload_n 0, 1) := by decide +kernel
theorem dX0_remove_31 : decode cX0_remove 31 = .ok (.getfield 52, 3) := by decide +kernel
theorem dX0_remove_34 : decode cX0_remove 34 = .ok (.if_icmp .ge 27, 3) := by decide +kernel
theorem dX0_remove_37 : decode cX0_remove 37 = .ok (.aload_n 0, 1) := by decide +kernel
theorem dX0_remove_38 : decode cX0_remove 38 = .ok (.getfield 24, 3) := by decide +kernel
theorem dX0_remove_41 : decode cX0_remove 41 = .ok (.iload_n 2, 1) := by decide +kernel
theorem dX0_remove_42 : decode cX0_remove 42 = .ok (.aaload, 1) := by decide +kernel
theorem dX0_remove_43 : decode cX0_remove 43 = .ok (.iload_n 1, 1) := by decide +kernel
theorem dX0_remove_44 : decode cX0_remove 44 = .ok (.iconst 0, 1) := by decide +kernel
theorem dX0_remove_45 : decode cX0_remove 45 = .ok (.iastore, 1) := by decide +kernel
theorem dX0_remove_46 : decode cX0_remove 46 = .ok (.aload_n 0, 1) := by decide +kernel
theorem dX0_remove_47 : decode cX0_remove 47 = .ok (.getfield 24, 3) := by decide +kernel
theorem dX0_remove_50 : decode cX0_remove 50 = .ok (.iload_n 1, 1) := by decide +kernel
theorem dX0_remove_51 : decode cX0_remove 51 = .ok (.aaload, 1) := by decide +kernel
theorem dX0_remove_52 : decode cX0_remove 52 = .ok (.iload_n 2, 1) := by decide +kernel
theorem dX0_remove_53 : decode cX0_remove 53 = .ok (.iconst 0, 1) := by decide +kernel
theorem dX0_remove_54 : decode cX0_remove 54 = .ok (.iastore, 1) := by decide +kernel
theorem dX0_remove_55 : decode cX0_remove 55 = .ok (.iinc 2 1, 3) := by decide +kernel
theorem dX0_remove_58 : decode cX0_remove 58 = .ok (.goto (-29), 3) := by decide +kernel
theorem dX0_remove_61 : decode cX0_remove 61 = .ok (.return_, 1) := by decide +kernel
theorem dX1_init_0 : decode cX1_init 0 = .ok (.aload_n 0, 1) := by decide +kernel
theorem dX1_init_1 : decode cX1_init 1 = .ok (.invokespecial 3, 3) := by decide +kernel
theorem dX1_init_4 : decode cX1_init 4 = .ok (.aload_n 0, 1) := by decide +kernel
theorem dX1_init_5 : decode cX1_init 5 = .ok (.bipush 12, 2) := by decide +kernel
theorem dX1_init_7 : decode cX1_init 7 = .ok (.newarray .int, 2) := by decide +kernel
theorem dX1_init_9 : decode cX1_init 9 = .ok (.putfield 9, 3) := by decide +kernel
theorem dX1_init_12 : decode cX1_init 12 = .ok (.aload_n 0, 1) := by decide +kernel
theorem dX1_init_13 : decode cX1_init 13 = .ok (.bipush 12, 2) := by decide +kernel
theorem dX1_init_15 : decode cX1_init 15 = .ok (.bipush 12, 2) := by decide +kernel
theorem dX1_init_17 : decode cX1_init 17 = .ok (.multianewarray 15 2, 4) := by decide +kernel
theorem dX1_init_21 : decode cX1_init 21 = .ok (.putfield 17, 3) := by decide +kernel
theorem dX1_init_24 : decode cX1_init 24 = .ok (.aload_n 0, 1) := by decide +kernel
theorem dX1_init_25 : decode cX1_init 25 = .ok (.bipush 12, 2) := by decide +kernel
theorem dX1_init_27 : decode cX1_init 27 = .ok (.invokevirtual 20, 3) := by decide +kernel
theorem dX1_init_30 : decode cX1_init 30 = .ok (.return_, 1) := by decide +kernel
theorem dX1_reset_0 : decode cX1_reset 0 = .ok (.aload_n 0, 1) := by decide +kernel
theorem dX1_reset_1 : decode cX1_reset 1 = .ok (.iconst 1, 1) := by decide +kernel
theorem dX1_reset_2 : decode cX1_reset 2 = .ok (.iload_n 1, 1) := by decide +kernel
theorem dX1_reset_3 : decode cX1_reset 3 = .ok (.bipush 12, 2) := by decide +kernel
theorem dX1_reset_5 : decode cX1_reset 5 = .ok (.invokestatic 24, 3) := by decide +kernel
theorem dX1_reset_8 : decode cX1_reset 8 = .ok (.invokestatic 30, 3) := by decide +kernel
theorem dX1_reset_11 : decode cX1_reset 11 = .ok (.putfield 33, 3) := by decide +kernel
theorem dX1_reset_14 : decode cX1_reset 14 = .ok (.aload_n 0, 1) := by decide +kernel
theorem dX1_reset_15 : decode cX1_reset 15 = .ok (.getfield 9, 3) := by decide +kernel
theorem dX1_reset_18 : decode cX1_reset 18 = .ok (.iconst 1, 1) := by decide +kernel
theorem dX1_reset_19 : decode cX1_reset 19 = .ok (.invokestatic 37, 3) := by decide +kernel
theorem dX1_reset_22 : decode cX1_reset 22 = .ok (.iconst 0, 1) := by decide +kernel
theorem dX1_reset_23 : decode cX1_reset 23 = .ok (.istore_n 2, 1) := by decide +kernel
theorem dX1_reset_24 : decode cX1_reset 24 = .ok (.iload_n 2, 1) := by decide +kernel
theorem dX1_reset_25 : decode cX1_reset 25 = .ok (.bipush 12, 2) := by decide +kernel
theorem dX1_reset_27 : decode cX1_reset 27 = .ok (.if_icmp .ge 19, 3) := by decide +kernel
theorem dX1_reset_30 : decode cX1_reset 30 = .ok (.aload_n 0, 1) := by decide +kernel
theorem dX1_reset_31 : decode cX1_reset 31 = .ok (.getfield 17, 3) := by decide +kernel
theorem dX1_reset_34 : decode cX1_reset 34 = .ok (.iload_n 2, 1) := by decide +kernel
theorem dX1_reset_35 : decode cX1_reset 35 = .ok (.aaload, 1) := by decide +kernel
theorem dX1_reset_36 : decode cX1_reset 36 = .ok (.iconst 0, 1) := by decide +kernel
theorem dX1_reset_37 : decode cX1_reset 37 = .ok (.invokestatic 37, 3) := by decide +kernel
theorem dX1_reset_40 : decode cX1_reset 40 = .ok (.iinc 2 1, 3) := by decide +kernel
theorem dX1_reset_43 : decode cX1_reset 43 = .ok (.goto (-19), 3) := by decide +kernel
theorem dX1_reset_46 : decode cX1_reset 46 = .ok (.return_, 1) := by decide +kernel
theorem dX1_become_0 : decode cX1_become 0 = .ok (.aload_n 0, 1) := by decide +kernel
theorem dX1_become_1 : decode cX1_become 1 = .ok (.aload_n 1, 1) := by decide +kernel
theorem dX1_become_2 : decode cX1_become 2 = .ok (.getfield 33, 3) := by decide +kernel
theorem dX1_become_5 : decode cX1_become 5 = .ok (.putfield 33, 3) := by decide +kernel
theorem dX1_become_8 : decode cX1_become 8 = .ok (.aload_n 1, 1) := by decide +kernel
theorem dX1_become_9 : decode cX1_become 9 = .ok (.getfield 9, 3) := by decide +kernel
theorem dX1_become_12 : decode cX1_become 12 = .ok (.iconst 0, 1) := by decide +kernel
theorem dX1_become_13 : decode cX1_become 13 = .ok (.aload_n 0, 1) := by decide +kernel
theorem dX1_become_14 : decode cX1_become 14 = .ok (.getfield 9, 3) := by decide +kernel
theorem dX1_become_17 : decode cX1_become 17 = .ok (.iconst 0, 1) := by decide +kernel
theorem dX1_become_18 : decode cX1_become 18 = .ok (.bipush 12, 2) := by decide +kernel
theorem dX1_become_20 : decode cX1_become 20 = .ok (.invokestatic 43, 3) := by decide +kernel
theorem dX1_become_23 : decode cX1_become 23 = .ok (.iconst 0, 1) := by decide +kernel
theorem dX1_become_24 : decode cX1_become 24 = .ok (.istore_n 2, 1) := by decide +kernel
theorem dX1_become_25 : decode cX1_become 25 = .ok (.iload_n 2, 1) := by decide +kernel
theorem dX1_become_26 : decode cX1_become 26 = .ok (.bipush 12, 2) := by decide +kernel
theorem dX1_become_28 : decode cX1_become 28 = .ok (.if_icmp .ge 28, 3) := by decide +kernel
theorem dX1_become_31 : decode cX1_become 31 = .ok (.aload_n 1, 1) := by decide +kernel
theorem dX1_become_32 : decode cX1_become 32 = .ok (.getfield 17, 3) := by decide +kernel
theorem dX1_become_35 : decode cX1_become 35 = .ok (.iload_n 2, 1) := by decide +kernel
theorem dX1_become_36 : decode cX1_become 36 = .ok (.aaload, 1) := by decide +kernel
theorem dX1_become_37 : decode cX1_become 37 = .ok (.iconst 0, 1) := by decide +kernel
theorem dX1_become_38 : decode cX1_become 38 = .ok (.aload_n 0, 1) := by decide +kernel
theorem dX1_become_39 : decode cX1_become 39 = .ok (.getfield 17, 3) := by decide +kernel
theorem dX1_become_42 : decode cX1_become 42 = .ok (.iload_n 2, 1) := by decide +kernel
theorem dX1_become_43 : decode cX1_become 43 = .ok (.aaload, 1) := by decide +kernel
theorem dX1_become_44 : decode cX1_become 44 = .ok (.iconst 0, 1) := by decide +kernel
theorem dX1_become_45 : decode cX1_become 45 = .ok (.bipush 12, 2) := by decide +kernel
theorem dX1_become_47 : decode cX1_become 47 = .ok (.invokestatic 43, 3) := by decide +kernel
theorem dX1_become_50 : decode cX1_become 50 = .ok (.iinc 2 1, 3) := by decide +kernel
theorem dX1_become_53 : decode cX1_become 53 = .ok (.goto (-28), 3) := by decide +kernel
theorem dX1_become_56 : decode cX1_become 56 = .ok (.return_, 1) := by decide +kernel
theorem dX1_vertices_0 : decode cX1_vertices 0 = .ok (.aload_n 0, 1) := by decide +kernel
theorem dX1_vertices_1 : decode cX1_vertices 1 = .ok (.getfield 33, 3) := by decide +kernel
theorem dX1_vertices_4 : decode cX1_vertices 4 = .ok (.ireturn, 1) := by decide +kernel
theorem dX1_hasVertex_0 : decode cX1_hasVertex 0 = .ok (.iload_n 1, 1) := by decide +kernel
theorem dX1_hasVertex_1 : decode cX1_hasVertex 1 = .ok (.ifCond .lt 15, 3) := by decide +kernel
theorem dX1_hasVertex_4 : decode cX1_hasVertex 4 = .ok (.iload_n 1, 1) := by decide +kernel
theorem dX1_hasVertex_5 : decode cX1_hasVertex 5 = .ok (.aload_n 0, 1) := by decide +kernel
theorem dX1_hasVertex_6 : decode cX1_hasVertex 6 = .ok (.getfield 33, 3) := by decide +kernel
theorem dX1_hasVertex_9 : decode cX1_hasVertex 9 = .ok (.if_icmp .ge 7, 3) := by decide +kernel
theorem dX1_hasVertex_12 : decode cX1_hasVertex 12 = .ok (.iconst 1, 1) := by decide +kernel
theorem dX1_hasVertex_13 : decode cX1_hasVertex 13 = .ok (.goto 4, 3) := by decide +kernel
theorem dX1_hasVertex_16 : decode cX1_hasVertex 16 = .ok (.iconst 0, 1) := by decide +kernel
theorem dX1_hasVertex_17 : decode cX1_hasVertex 17 = .ok (.ireturn, 1) := by decide +kernel
theorem dX1_hasVertices_0 : decode cX1_hasVertices 0 = .ok (.iload_n 1, 1) := by decide +kernel
theorem dX1_hasVertices_1 : decode cX1_hasVertices 1 = .ok (.ifCond .lt 27, 3) := by decide +kernel
theorem dX1_hasVertices_4 : decode cX1_hasVertices 4 = .ok (.iload_n 1, 1) := by decide +kernel
theorem dX1_hasVertices_5 : decode cX1_hasVertices 5 = .ok (.aload_n 0, 1) := by decide +kernel
theorem dX1_hasVertices_6 : decode cX1_hasVertices 6 = .ok (.getfield 33, 3) := by decide +kernel
theorem dX1_hasVertices_9 : decode cX1_hasVertices 9 = .ok (.if_icmp .ge 19, 3) := by decide +kernel
theorem dX1_hasVertices_12 : decode cX1_hasVertices 12 = .ok (.iload_n 2, 1) := by decide +kernel
theorem dX1_hasVertices_13 : decode cX1_hasVertices 13 = .ok (.ifCond .lt 15, 3) := by decide +kernel
theorem dX1_hasVertices_16 : decode cX1_hasVertices 16 = .ok (.iload_n 2, 1) := by decide +kernel
theorem dX1_hasVertices_17 : decode cX1_hasVertices 17 = .ok (.aload_n 0, 1) := by decide +kernel
theorem dX1_hasVertices_18 : decode cX1_hasVertices 18 = .ok (.getfield 33, 3) := by decide +kernel
theorem dX1_hasVertices_21 : decode cX1_hasVertices 21 = .ok (.if_icmp .ge 7, 3) := by decide +kernel
theorem dX1_hasVertices_24 : decode cX1_hasVertices 24 = .ok (.iconst 1, 1) := by decide +kernel
theorem dX1_hasVertices_25 : decode cX1_hasVertices 25 = .ok (.goto 4, 3) := by decide +kernel
theorem dX1_hasVertices_28 : decode cX1_hasVertices 28 = .ok (.iconst 0, 1) := by decide +kernel
theorem dX1_hasVertices_29 : decode cX1_hasVertices 29 = .ok (.ireturn, 1) := by decide +kernel
theorem dX1_weightOf_0 : decode cX1_weightOf 0 = .ok (.aload_n 0, 1) := by decide +kernel
theorem dX1_weightOf_1 : decode cX1_weightOf 1 = .ok (.iload_n 1, 1) := by decide +kernel
theorem dX1_weightOf_2 : decode cX1_weightOf 2 = .ok (.invokevirtual 49, 3) := by decide +kernel
theorem dX1_weightOf_5 : decode cX1_weightOf 5 = .ok (.ifCond .eq 12, 3) := by decide +kernel
theorem dX1_weightOf_8 : decode cX1_weightOf 8 = .ok (.aload_n 0, 1) := by decide +kernel
theorem dX1_weightOf_9 : decode cX1_weightOf 9 = .ok (.getfield 9, 3) := by decide +kernel
theorem dX1_weightOf_12 : decode cX1_weightOf 12 = .ok (.iload_n 1, 1) := by decide +kernel
theorem dX1_weightOf_13 : decode cX1_weightOf 13 = .ok (.iaload, 1) := by decide +kernel
theorem dX1_weightOf_14 : decode cX1_weightOf 14 = .ok (.goto 4, 3) := by decide +kernel
theorem dX1_weightOf_17 : decode cX1_weightOf 17 = .ok (.iconst 0, 1) := by decide +kernel
theorem dX1_weightOf_18 : decode cX1_weightOf 18 = .ok (.ireturn, 1) := by decide +kernel
theorem dX1_putWeight_0 : decode cX1_putWeight 0 = .ok (.aload_n 0, 1) := by decide +kernel
theorem dX1_putWeight_1 : decode cX1_putWeight 1 = .ok (.iload_n 1, 1) := by decide +kernel
theorem dX1_putWeight_2 : decode cX1_putWeight 2 = .ok (.invokevirtual 49, 3) := by decide +kernel
theorem dX1_putWeight_5 : decode cX1_putWeight 5 = .ok (.ifCond .eq 10, 3) := by decide +kernel
theorem dX1_putWeight_8 : decode cX1_putWeight 8 = .ok (.aload_n 0, 1) := by decide +kernel
theorem dX1_putWeight_9 : decode cX1_putWeight 9 = .ok (.getfield 9, 3) := by decide +kernel
theorem dX1_putWeight_12 : decode cX1_putWeight 12 = .ok (.iload_n 1, 1) := by decide +kernel
theorem dX1_putWeight_13 : decode cX1_putWeight 13 = .ok (.iload_n 2, 1) := by decide +kernel
theorem dX1_putWeight_14 : decode cX1_putWeight 14 = .ok (.iastore, 1) := by decide +kernel
theorem dX1_putWeight_15 : decode cX1_putWeight 15 = .ok (.return_, 1) := by decide +kernel
theorem dX1_hasEdge_0 : decode cX1_hasEdge 0 = .ok (.aload_n 0, 1) := by decide +kernel
theorem dX1_hasEdge_1 : decode cX1_hasEdge 1 = .ok (.iload_n 1, 1) := by decide +kernel
theorem dX1_hasEdge_2 : decode cX1_hasEdge 2 = .ok (.iload_n 2, 1) := by decide +kernel
theorem dX1_hasEdge_3 : decode cX1_hasEdge 3 = .ok (.invokevirtual 53, 3) := by decide +kernel
theorem dX1_hasEdge_6 : decode cX1_hasEdge 6 = .ok (.ifCond .eq 7, 3) := by decide +kernel
theorem dX1_hasEdge_9 : decode cX1_hasEdge 9 = .ok (.iconst 1, 1) := by decide +kernel
theorem dX1_hasEdge_10 : decode cX1_hasEdge 10 = .ok (.goto 4, 3) := by decide +kernel
theorem dX1_hasEdge_13 : decode cX1_hasEdge 13 = .ok (.iconst 0, 1) := by decide +kernel
theorem dX1_hasEdge_14 : decode cX1_hasEdge 14 = .ok (.ireturn, 1) := by decide +kernel
theorem dX1_edgeBetween_0 : decode cX1_edgeBetween 0 = .ok (.aload_n 0, 1) := by decide +kernel
theorem dX1_edgeBetween_1 : decode cX1_edgeBetween 1 = .ok (.iload_n 1, 1) := by decide +kernel
theorem dX1_edgeBetween_2 : decode cX1_edgeBetween 2 = .ok (.iload_n 2, 1) := by decide +kernel
theorem dX1_edgeBetween_3 : decode cX1_edgeBetween 3 = .ok (.invokevirtual 56, 3) := by decide +kernel
theorem dX1_edgeBetween_6 : decode cX1_edgeBetween 6 = .ok (.ifCond .eq 14, 3) := by decide +kernel
theorem dX1_edgeBetween_9 : decode cX1_edgeBetween 9 = .ok (.aload_n 0, 1) := by decide +kernel
theorem dX1_edgeBetween_10 : decode cX1_edgeBetween 10 = .ok (.getfield 17, 3) := by decide +kernel
theorem dX1_edgeBetween_13 : decode cX1_edgeBetween 13 = .ok (.iload_n 1, 1) := by decide +kernel
theorem dX1_edgeBetween_14 : decode cX1_edgeBetween 14 = .ok (.aaload, 1) := by decide +kernel
theorem dX1_edgeBetween_15 : decode cX1_edgeBetween 15 = .ok (.iload_n 2, 1) := by decide +kernel
theorem dX1_edgeBetween_16 : decode cX1_edgeBetween 16 = .ok (.iaload, 1) := by decide +kernel
theorem dX1_edgeBetween_17 : decode cX1_edgeBetween 17 = .ok (.goto 4, 3) := by decide +kernel
theorem dX1_edgeBetween_20 : decode cX1_edgeBetween 20 = .ok (.iconst 0, 1) := by decide +kernel
theorem dX1_edgeBetween_21 : decode cX1_edgeBetween 21 = .ok (.ireturn, 1) := by decide +kernel
theorem dX1_putEdge_0 : decode cX1_putEdge 0 = .ok (.aload_n 0, 1) := by decide +kernel
theorem dX1_putEdge_1 : decode cX1_putEdge 1 = .ok (.iload_n 1, 1) := by decide +kernel
theorem dX1_putEdge_2 : decode cX1_putEdge 2 = .ok (.iload_n 2, 1) := by decide +kernel
theorem dX1_putEdge_3 : decode cX1_putEdge 3 = .ok (.invokevirtual 56, 3) := by decide +kernel
theorem dX1_putEdge_6 : decode cX1_putEdge 6 = .ok (.ifCond .eq 21, 3) := by decide +kernel
theorem dX1_putEdge_9 : decode cX1_putEdge 9 = .ok (.aload_n 0, 1) := by decide +kernel
theorem dX1_putEdge_10 : decode cX1_putEdge 10 = .ok (.getfield 17, 3) := by decide +kernel
theorem dX1_putEdge_13 : decode cX1_putEdge 13 = .ok (.iload_n 1, 1) := by decide +kernel
theorem dX1_putEdge_14 : decode cX1_putEdge 14 = .ok (.aaload, 1) := by decide +kernel
theorem dX1_putEdge_15 : decode cX1_putEdge 15 = .ok (.iload_n 2, 1) := by decide +kernel
theorem dX1_putEdge_16 : decode cX1_putEdge 16 = .ok (.iload_n 3, 1) := by decide +kernel
theorem dX1_putEdge_17 : decode cX1_putEdge 17 = .ok (.iastore, 1) := by decide +kernel
theorem dX1_putEdge_18 : decode cX1_putEdge 18 = .ok (.aload_n 0, 1) := by decide +kernel
theorem dX1_putEdge_19 : decode cX1_putEdge 19 = .ok (.getfield 17, 3) := by decide +kernel
theorem dX1_putEdge_22 : decode cX1_putEdge 22 = .ok (.iload_n 2, 1) := by decide +kernel
theorem dX1_putEdge_23 : decode cX1_putEdge 23 = .ok (.aaload, 1) := by decide +kernel
theorem dX1_putEdge_24 : decode cX1_putEdge 24 = .ok (.iload_n 1, 1) := by decide +kernel
theorem dX1_putEdge_25 : decode cX1_putEdge 25 = .ok (.iload_n 3, 1) := by decide +kernel
theorem dX1_putEdge_26 : decode cX1_putEdge 26 = .ok (.iastore, 1) := by decide +kernel
theorem dX1_putEdge_27 : decode cX1_putEdge 27 = .ok (.return_, 1) := by decide +kernel
theorem dX1_edgeCount_0 : decode cX1_edgeCount 0 = .ok (.iconst 0, 1) := by decide +kernel
theorem dX1_edgeCount_1 : decode cX1_edgeCount 1 = .ok (.istore_n 1, 1) := by decide +kernel
theorem dX1_edgeCount_2 : decode cX1_edgeCount 2 = .ok (.iconst 0, 1) := by decide +kernel
theorem dX1_edgeCount_3 : decode cX1_edgeCount 3 = .ok (.istore_n 2, 1) := by decide +kernel
theorem dX1_edgeCount_4 : decode cX1_edgeCount 4 = .ok (.iload_n 2, 1) := by decide +kernel
theorem dX1_edgeCount_5 : decode cX1_edgeCount 5 = .ok (.aload_n 0, 1) := by decide +kernel
theorem dX1_edgeCount_6 : decode cX1_edgeCount 6 = .ok (.getfield 33, 3) := by decide +kernel
theorem dX1_edgeCount_9 : decode cX1_edgeCount 9 = .ok (.if_icmp .ge 39, 3) := by decide +kernel
theorem dX1_edgeCount_12 : decode cX1_edgeCount 12 = .ok (.iload_n 2, 1) := by decide +kernel
theorem dX1_edgeCount_13 : decode cX1_edgeCount 13 = .ok (.iconst 1, 1) := by decide +kernel
theorem dX1_edgeCount_14 : decode cX1_edgeCount 14 = .ok (.iadd, 1) := by decide +kernel
theorem dX1_edgeCount_15 : decode cX1_edgeCount 15 = .ok (.istore_n 3, 1) := by decide +kernel
theorem dX1_edgeCount_16 : decode cX1_edgeCount 16 = .ok (.iload_n 3, 1) := by decide +kernel
theorem dX1_edgeCount_17 : decode cX1_edgeCount 17 = .ok (.aload_n 0, 1) := by decide +kernel
theorem dX1_edgeCount_18 : decode cX1_edgeCount 18 = .ok (.getfield 33, 3) := by decide +kernel
theorem dX1_edgeCount_21 : decode cX1_edgeCount 21 = .ok (.if_icmp .ge 21, 3) := by decide +kernel
theorem dX1_edgeCount_24 : decode cX1_edgeCount 24 = .ok (.aload_n 0, 1) := by decide +kernel
theorem dX1_edgeCount_25 : decode cX1_edgeCount 25 = .ok (.iload_n 2, 1) := by decide +kernel
theorem dX1_edgeCount_26 : decode cX1_edgeCount 26 = .ok (.iload_n 3, 1) := by decide +kernel
theorem dX1_edgeCount_27 : decode cX1_edgeCount 27 = .ok (.invokevirtual 60, 3) := by decide +kernel
theorem dX1_edgeCount_30 : decode cX1_edgeCount 30 = .ok (.ifCond .eq 6, 3) := by decide +kernel
theorem dX1_edgeCount_33 : decode cX1_edgeCount 33 = .ok (.iinc 1 1, 3) := by decide +kernel
theorem dX1_edgeCount_36 : decode cX1_edgeCount 36 = .ok (.iinc 3 1, 3) := by decide +kernel
theorem dX1_edgeCount_39 : decode cX1_edgeCount 39 = .ok (.goto (-23), 3) := by decide +kernel
theorem dX1_edgeCount_42 : decode cX1_edgeCount 42 = .ok (.iinc 2 1, 3) := by decide +kernel
theorem dX1_edgeCount_45 : decode cX1_edgeCount 45 = .ok (.goto (-41), 3) := by decide +kernel
theorem dX1_edgeCount_48 : decode cX1_edgeCount 48 = .ok (.iload_n 1, 1) := by decide +kernel
theorem dX1_edgeCount_49 : decode cX1_edgeCount 49 = .ok (.ireturn, 1) := by decide +kernel
theorem dX2_init_0 : decode cX2_init 0 = .ok (.aload_n 0, 1) := by decide +kernel
theorem dX2_init_1 : decode cX2_init 1 = .ok (.invokespecial 1, 3) := by decide +kernel
theorem dX2_init_4 : decode cX2_init 4 = .ok (.aload_n 0, 1) := by decide +kernel
theorem dX2_init_5 : decode cX2_init 5 = .ok (.bipush 14, 2) := by decide +kernel
theorem dX2_init_7 : decode cX2_init 7 = .ok (.anewarray 9, 3) := by decide +kernel
theorem dX2_init_10 : decode cX2_init 10 = .ok (.putfield 11, 3) := by decide +kernel
theorem dX2_init_13 : decode cX2_init 13 = .ok (.iconst 0, 1) := by decide +kernel
theorem dX2_init_14 : decode cX2_init 14 = .ok (.istore_n 1, 1) := by decide +kernel
theorem dX2_init_15 : decode cX2_init 15 = .ok (.iload_n 1, 1) := by decide +kernel
theorem dX2_init_16 : decode cX2_init 16 = .ok (.bipush 14, 2) := by decide +kernel
theorem dX2_init_18 : decode cX2_init 18 = .ok (.if_icmp .ge 22, 3) := by decide +kernel
theorem dX2_init_21 : decode cX2_init 21 = .ok (.aload_n 0, 1) := by decide +kernel
theorem dX2_init_22 : decode cX2_init 22 = .ok (.getfield 11, 3) := by decide +kernel
theorem dX2_init_25 : decode cX2_init 25 = .ok (.iload_n 1, 1) := by decide +kernel
theorem dX2_init_26 : decode cX2_init 26 = .ok (.new 9, 3) := by decide +kernel
theorem dX2_init_29 : decode cX2_init 29 = .ok (.dup, 1) := by decide +kernel
theorem dX2_init_30 : decode cX2_init 30 = .ok (.invokespecial 15, 3) := by decide +kernel
theorem dX2_init_33 : decode cX2_init 33 = .ok (.aastore, 1) := by decide +kernel
theorem dX2_init_34 : decode cX2_init 34 = .ok (.iinc 1 1, 3) := by decide +kernel
theorem dX2_init_37 : decode cX2_init 37 = .ok (.goto (-22), 3) := by decide +kernel
theorem dX2_init_40 : decode cX2_init 40 = .ok (.return_, 1) := by decide +kernel
theorem dX2_size_0 : decode cX2_size 0 = .ok (.aload_n 0, 1) := by decide +kernel
theorem dX2_size_1 : decode cX2_size 1 = .ok (.getfield 16, 3) := by decide +kernel
theorem dX2_size_4 : decode cX2_size 4 = .ok (.ireturn, 1) := by decide +kernel
theorem dX2_remember_0 : decode cX2_remember 0 = .ok (.aload_n 0, 1) := by decide +kernel
theorem dX2_remember_1 : decode cX2_remember 1 = .ok (.getfield 11, 3) := by decide +kernel
theorem dX2_remember_4 : decode cX2_remember 4 = .ok (.aload_n 0, 1) := by decide +kernel
theorem dX2_remember_5 : decode cX2_remember 5 = .ok (.getfield 20, 3) := by decide +kernel
theorem dX2_remember_8 : decode cX2_remember 8 = .ok (.aaload, 1) := by decide +kernel
theorem dX2_remember_9 : decode cX2_remember 9 = .ok (.aload_n 1, 1) := by decide +kernel
theorem dX2_remember_10 : decode cX2_remember 10 = .ok (.invokevirtual 23, 3) := by decide +kernel
theorem dX2_remember_13 : decode cX2_remember 13 = .ok (.aload_n 0, 1) := by decide +kernel
theorem dX2_remember_14 : decode cX2_remember 14 = .ok (.aload_n 0, 1) := by decide +kernel
theorem dX2_remember_15 : decode cX2_remember 15 = .ok (.getfield 20, 3) := by decide +kernel
theorem dX2_remember_18 : decode cX2_remember 18 = .ok (.iconst 1, 1) := by decide +kernel
theorem dX2_remember_19 : decode cX2_remember 19 = .ok (.iadd, 1) := by decide +kernel
theorem dX2_remember_20 : decode cX2_remember 20 = .ok (.bipush 14, 2) := by decide +kernel
theorem dX2_remember_22 : decode cX2_remember 22 = .ok (.irem, 1) := by decide +kernel
theorem dX2_remember_23 : decode cX2_remember 23 = .ok (.putfield 20, 3) := by decide +kernel
theorem dX2_remember_26 : decode cX2_remember 26 = .ok (.aload_n 0, 1) := by decide +kernel
theorem dX2_remember_27 : decode cX2_remember 27 = .ok (.aload_n 0, 1) := by decide +kernel
theorem dX2_remember_28 : decode cX2_remember 28 = .ok (.getfield 16, 3) := by decide +kernel
theorem dX2_remember_31 : decode cX2_remember 31 = .ok (.iconst 1, 1) := by decide +kernel
theorem dX2_remember_32 : decode cX2_remember 32 = .ok (.iadd, 1) := by decide +kernel
theorem dX2_remember_33 : decode cX2_remember 33 = .ok (.bipush 14, 2) := by decide +kernel
theorem dX2_remember_35 : decode cX2_remember 35 = .ok (.invokestatic 27, 3) := by decide +kernel
theorem dX2_remember_38 : decode cX2_remember 38 = .ok (.putfield 16, 3) := by decide +kernel
theorem dX2_remember_41 : decode cX2_remember 41 = .ok (.return_, 1) := by decide +kernel
theorem dX2_takeBack_0 : decode cX2_takeBack 0 = .ok (.aload_n 0, 1) := by decide +kernel
theorem dX2_takeBack_1 : decode cX2_takeBack 1 = .ok (.getfield 16, 3) := by decide +kernel
theorem dX2_takeBack_4 : decode cX2_takeBack 4 = .ok (.ifCond .ne 5, 3) := by decide +kernel
theorem dX2_takeBack_7 : decode cX2_takeBack 7 = .ok (.iconst 0, 1) := by decide +kernel
theorem dX2_takeBack_8 : decode cX2_takeBack 8 = .ok (.ireturn, 1) := by decide +kernel
theorem dX2_takeBack_9 : decode cX2_takeBack 9 = .ok (.aload_n 0, 1) := by decide +kernel
theorem dX2_takeBack_10 : decode cX2_takeBack 10 = .ok (.aload_n 0, 1) := by decide +kernel
theorem dX2_takeBack_11 : decode cX2_takeBack 11 = .ok (.getfield 20, 3) := by decide +kernel
theorem dX2_takeBack_14 : decode cX2_takeBack 14 = .ok (.bipush 14, 2) := by decide +kernel
theorem dX2_takeBack_16 : decode cX2_takeBack 16 = .ok (.iadd, 1) := by decide +kernel
theorem dX2_takeBack_17 : decode cX2_takeBack 17 = .ok (.iconst 1, 1) := by decide +kernel
theorem dX2_takeBack_18 : decode cX2_takeBack 18 = .ok (.isub, 1) := by decide +kernel
theorem dX2_takeBack_19 : decode cX2_takeBack 19 = .ok (.bipush 14, 2) := by decide +kernel
theorem dX2_takeBack_21 : decode cX2_takeBack 21 = .ok (.irem, 1) := by decide +kernel
theorem dX2_takeBack_22 : decode cX2_takeBack 22 = .ok (.putfield 20, 3) := by decide +kernel
theorem dX2_takeBack_25 : decode cX2_takeBack 25 = .ok (.aload_n 0, 1) := by decide +kernel
theorem dX2_takeBack_26 : decode cX2_takeBack 26 = .ok (.dup, 1) := by decide +kernel
theorem dX2_takeBack_27 : decode cX2_takeBack 27 = .ok (.getfield 16, 3) := by decide +kernel
theorem dX2_takeBack_30 : decode cX2_takeBack 30 = .ok (.iconst 1, 1) := by decide +kernel
theorem dX2_takeBack_31 : decode cX2_takeBack 31 = .ok (.isub, 1) := by decide +kernel
theorem dX2_takeBack_32 : decode cX2_takeBack 32 = .ok (.putfield 16, 3) := by decide +kernel
theorem dX2_takeBack_35 : decode cX2_takeBack 35 = .ok (.aload_n 1, 1) := by decide +kernel
theorem dX2_takeBack_36 : decode cX2_takeBack 36 = .ok (.aload_n 0, 1) := by decide +kernel
theorem dX2_takeBack_37 : decode cX2_takeBack 37 = .ok (.getfield 11, 3) := by decide +kernel
theorem dX2_takeBack_40 : decode cX2_takeBack 40 = .ok (.aload_n 0, 1) := by decide +kernel
theorem dX2_takeBack_41 : decode cX2_takeBack 41 = .ok (.getfield 20, 3) := by decide +kernel
theorem dX2_takeBack_44 : decode cX2_takeBack 44 = .ok (.aaload, 1) := by decide +kernel
theorem dX2_takeBack_45 : decode cX2_takeBack 45 = .ok (.invokevirtual 23, 3) := by decide +kernel
theorem dX2_takeBack_48 : decode cX2_takeBack 48 = .ok (.iconst 1, 1) := by decide +kernel
theorem dX2_takeBack_49 : decode cX2_takeBack 49 = .ok (.ireturn, 1) := by decide +kernel
theorem dX2_forget_0 : decode cX2_forget 0 = .ok (.aload_n 0, 1) := by decide +kernel
theorem dX2_forget_1 : decode cX2_forget 1 = .ok (.iconst 0, 1) := by decide +kernel
theorem dX2_forget_2 : decode cX2_forget 2 = .ok (.putfield 16, 3) := by decide +kernel
theorem dX2_forget_5 : decode cX2_forget 5 = .ok (.return_, 1) := by decide +kernel
theorem dX3_init_0 : decode cX3_init 0 = .ok (.aload_n 0, 1) := by decide +kernel
theorem dX3_init_1 : decode cX3_init 1 = .ok (.invokespecial 3, 3) := by decide +kernel
theorem dX3_init_4 : decode cX3_init 4 = .ok (.aload_n 0, 1) := by decide +kernel
theorem dX3_init_5 : decode cX3_init 5 = .ok (.bipush 6, 2) := by decide +kernel
theorem dX3_init_7 : decode cX3_init 7 = .ok (.newarray .int, 2) := by decide +kernel
theorem dX3_init_9 : decode cX3_init 9 = .ok (.putfield 11, 3) := by decide +kernel
theorem dX3_init_12 : decode cX3_init 12 = .ok (.aload_n 0, 1) := by decide +kernel
theorem dX3_init_13 : decode cX3_init 13 = .ok (.bipush 6, 2) := by decide +kernel
theorem dX3_init_15 : decode cX3_init 15 = .ok (.newarray .int, 2) := by decide +kernel
theorem dX3_init_17 : decode cX3_init 17 = .ok (.putfield 15, 3) := by decide +kernel
theorem dX3_init_20 : decode cX3_init 20 = .ok (.aload_n 0, 1) := by decide +kernel
theorem dX3_init_21 : decode cX3_init 21 = .ok (.bipush 6, 2) := by decide +kernel
theorem dX3_init_23 : decode cX3_init 23 = .ok (.newarray .int, 2) := by decide +kernel
theorem dX3_init_25 : decode cX3_init 25 = .ok (.putfield 18, 3) := by decide +kernel
theorem dX3_init_28 : decode cX3_init 28 = .ok (.return_, 1) := by decide +kernel
theorem dX3_store_0 : decode cX3_store 0 = .ok (.aload_n 0, 1) := by decide +kernel
theorem dX3_store_1 : decode cX3_store 1 = .ok (.getfield 11, 3) := by decide +kernel
theorem dX3_store_4 : decode cX3_store 4 = .ok (.aload_n 0, 1) := by decide +kernel
theorem dX3_store_5 : decode cX3_store 5 = .ok (.getfield 21, 3) := by decide +kernel
theorem dX3_store_8 : decode cX3_store 8 = .ok (.iload_n 1, 1) := by decide +kernel
theorem dX3_store_9 : decode cX3_store 9 = .ok (.iastore, 1) := by decide +kernel
theorem dX3_store_10 : decode cX3_store 10 = .ok (.aload_n 0, 1) := by decide +kernel
theorem dX3_store_11 : decode cX3_store 11 = .ok (.getfield 15, 3) := by decide +kernel
theorem dX3_store_14 : decode cX3_store 14 = .ok (.aload_n 0, 1) := by decide +kernel
theorem dX3_store_15 : decode cX3_store 15 = .ok (.getfield 21, 3) := by decide +kernel
theorem dX3_store_18 : decode cX3_store 18 = .ok (.iload_n 2, 1) := by decide +kernel
theorem dX3_store_19 : decode cX3_store 19 = .ok (.iastore, 1) := by decide +kernel
theorem dX3_store_20 : decode cX3_store 20 = .ok (.aload_n 0, 1) := by decide +kernel
theorem dX3_store_21 : decode cX3_store 21 = .ok (.getfield 18, 3) := by decide +kernel
theorem dX3_store_24 : decode cX3_store 24 = .ok (.aload_n 0, 1) := by decide +kernel
theorem dX3_store_25 : decode cX3_store 25 = .ok (.getfield 21, 3) := by decide +kernel
theorem dX3_store_28 : decode cX3_store 28 = .ok (.iload_n 3, 1) := by decide +kernel
theorem dX3_store_29 : decode cX3_store 29 = .ok (.iastore, 1) := by decide +kernel
theorem dX3_store_30 : decode cX3_store 30 = .ok (.aload_n 0, 1) := by decide +kernel
theorem dX3_store_31 : decode cX3_store 31 = .ok (.aload_n 0, 1) := by decide +kernel
theorem dX3_store_32 : decode cX3_store 32 = .ok (.getfield 21, 3) := by decide +kernel
theorem dX3_store_35 : decode cX3_store 35 = .ok (.iconst 1, 1) := by decide +kernel
theorem dX3_store_36 : decode cX3_store 36 = .ok (.iadd, 1) := by decide +kernel
theorem dX3_store_37 : decode cX3_store 37 = .ok (.bipush 6, 2) := by decide +kernel
theorem dX3_store_39 : decode cX3_store 39 = .ok (.irem, 1) := by decide +kernel
theorem dX3_store_40 : decode cX3_store 40 = .ok (.putfield 21, 3) := by decide +kernel
theorem dX3_store_43 : decode cX3_store 43 = .ok (.aload_n 0, 1) := by decide +kernel
theorem dX3_store_44 : decode cX3_store 44 = .ok (.aload_n 0, 1) := by decide +kernel
theorem dX3_store_45 : decode cX3_store 45 = .ok (.getfield 25, 3) := by decide +kernel
theorem dX3_store_48 : decode cX3_store 48 = .ok (.iconst 1, 1) := by decide +kernel
theorem dX3_store_49 : decode cX3_store 49 = .ok (.iadd, 1) := by decide +kernel
theorem dX3_store_50 : decode cX3_store 50 = .ok (.bipush 6, 2) := by decide +kernel
theorem dX3_store_52 : decode cX3_store 52 = .ok (.invokestatic 28, 3) := by decide +kernel
theorem dX3_store_55 : decode cX3_store 55 = .ok (.putfield 25, 3) := by decide +kernel
theorem dX3_store_58 : decode cX3_store 58 = .ok (.aload_n 0, 1) := by decide +kernel
theorem dX3_store_59 : decode cX3_store 59 = .ok (.getfield 25, 3) := by decide +kernel
theorem dX3_store_62 : decode cX3_store 62 = .ok (.ireturn, 1) := by decide +kernel
theorem dX3_countWeights_0 : decode cX3_countWeights 0 = .ok (.iconst 1, 1) := by decide +kernel
theorem dX3_countWeights_1 : decode cX3_countWeights 1 = .ok (.istore 4, 2) := by decide +kernel
theorem dX3_countWeights_3 : decode cX3_countWeights 3 = .ok (.bipush 99, 2) := by decide +kernel
theorem dX3_countWeights_5 : decode cX3_countWeights 5 = .ok (.istore 5, 2) := by decide +kernel
theorem dX3_countWeights_7 : decode cX3_countWeights 7 = .ok (.iconst 0, 1) := by decide +kernel
theorem dX3_countWeights_8 : decode cX3_countWeights 8 = .ok (.istore 6, 2) := by decide +kernel
theorem dX3_countWeights_10 : decode cX3_countWeights 10 = .ok (.iload 6, 2) := by decide +kernel
theorem dX3_countWeights_12 : decode cX3_countWeights 12 = .ok (.aload_n 0, 1) := by decide +kernel
theorem dX3_countWeights_13 : decode cX3_countWeights 13 = .ok (.getfield 25, 3) := by decide +kernel
theorem dX3_countWeights_16 : decode cX3_countWeights 16 = .ok (.if_icmp .ge 122, 3) := by decide +kernel
theorem dX3_countWeights_19 : decode cX3_countWeights 19 = .ok (.aload_n 0, 1) := by decide +kernel
theorem dX3_countWeights_20 : decode cX3_countWeights 20 = .ok (.getfield 18, 3) := by decide +kernel
theorem dX3_countWeights_23 : decode cX3_countWeights 23 = .ok (.iload 6, 2) := by decide +kernel
theorem dX3_countWeights_25 : decode cX3_countWeights 25 = .ok (.iaload, 1) := by decide +kernel
theorem dX3_countWeights_26 : decode cX3_countWeights 26 = .ok (.aload_n 1, 1) := by decide +kernel
theorem dX3_countWeights_27 : decode cX3_countWeights 27 = .ok (.aload_n 0, 1) := by decide +kernel
theorem dX3_countWeights_28 : decode cX3_countWeights 28 = .ok (.getfield 11, 3) := by decide +kernel
theorem dX3_countWeights_31 : decode cX3_countWeights 31 = .ok (.iload 6, 2) := by decide +kernel
theorem dX3_countWeights_33 : decode cX3_countWeights 33 = .ok (.iaload, 1) := by decide +kernel
theorem dX3_countWeights_34 : decode cX3_countWeights 34 = .ok (.aload_n 0, 1) := by decide +kernel
theorem dX3_countWeights_35 : decode cX3_countWeights 35 = .ok (.getfield 15, 3) := by decide +kernel
theorem dX3_countWeights_38 : decode cX3_countWeights 38 = .ok (.iload 6, 2) := by decide +kernel
theorem dX3_countWeights_40 : decode cX3_countWeights 40 = .ok (.iaload, 1) := by decide +kernel
theorem dX3_countWeights_41 : decode cX3_countWeights 41 = .ok (.invokevirtual 34, 3) := by decide +kernel
theorem dX3_countWeights_44 : decode cX3_countWeights 44 = .ok (.isub, 1) := by decide +kernel
theorem dX3_countWeights_45 : decode cX3_countWeights 45 = .ok (.istore 7, 2) := by decide +kernel
theorem dX3_countWeights_47 : decode cX3_countWeights 47 = .ok (.aload_n 1, 1) := by decide +kernel
theorem dX3_countWeights_48 : decode cX3_countWeights 48 = .ok (.aload_n 0, 1) := by decide +kernel
theorem dX3_countWeights_49 : decode cX3_countWeights 49 = .ok (.getfield 11, 3) := by decide +kernel
theorem dX3_countWeights_52 : decode cX3_countWeights 52 = .ok (.iload 6, 2) := by decide +kernel
theorem dX3_countWeights_54 : decode cX3_countWeights 54 = .ok (.iaload, 1) := by decide +kernel
theorem dX3_countWeights_55 : decode cX3_countWeights 55 = .ok (.aload_n 0, 1) := by decide +kernel
theorem dX3_countWeights_56 : decode cX3_countWeights 56 = .ok (.getfield 15, 3) := by decide +kernel
theorem dX3_countWeights_59 : decode cX3_countWeights 59 = .ok (.iload 6, 2) := by decide +kernel
theorem dX3_countWeights_61 : decode cX3_countWeights 61 = .ok (.iaload, 1) := by decide +kernel
theorem dX3_countWeights_62 : decode cX3_countWeights 62 = .ok (.invokevirtual 39, 3) := by decide +kernel
theorem dX3_countWeights_65 : decode cX3_countWeights 65 = .ok (.ifCond .ne 5, 3) := by decide +kernel
theorem dX3_countWeights_68 : decode cX3_countWeights 68 = .ok (.iconst 0, 1) := by decide +kernel
theorem dX3_countWeights_69 : decode cX3_countWeights 69 = .ok (.ireturn, 1) := by decide +kernel
theorem dX3_countWeights_70 : decode cX3_countWeights 70 = .ok (.aload_n 1, 1) := by decide +kernel
theorem dX3_countWeights_71 : decode cX3_countWeights 71 = .ok (.aload_n 0, 1) := by decide +kernel
theorem dX3_countWeights_72 : decode cX3_countWeights 72 = .ok (.getfield 11, 3) := by decide +kernel
theorem dX3_countWeights_75 : decode cX3_countWeights 75 = .ok (.iload 6, 2) := by decide +kernel
theorem dX3_countWeights_77 : decode cX3_countWeights 77 = .ok (.iaload, 1) := by decide +kernel
theorem dX3_countWeights_78 : decode cX3_countWeights 78 = .ok (.aload_n 0, 1) := by decide +kernel
theorem dX3_countWeights_79 : decode cX3_countWeights 79 = .ok (.getfield 15, 3) := by decide +kernel
theorem dX3_countWeights_82 : decode cX3_countWeights 82 = .ok (.iload 6, 2) := by decide +kernel
theorem dX3_countWeights_84 : decode cX3_countWeights 84 = .ok (.iaload, 1) := by decide +kernel
theorem dX3_countWeights_85 : decode cX3_countWeights 85 = .ok (.iload_n 2, 1) := by decide +kernel
theorem dX3_countWeights_86 : decode cX3_countWeights 86 = .ok (.iload_n 3, 1) := by decide +kernel
theorem dX3_countWeights_87 : decode cX3_countWeights 87 = .ok (.invokevirtual 43, 3) := by decide +kernel
theorem dX3_countWeights_90 : decode cX3_countWeights 90 = .ok (.ifCond .eq 35, 3) := by decide +kernel
theorem dX3_countWeights_93 : decode cX3_countWeights 93 = .ok (.aload_n 1, 1) := by decide +kernel
theorem dX3_countWeights_94 : decode cX3_countWeights 94 = .ok (.iload_n 2, 1) := by decide +kernel
theorem dX3_countWeights_95 : decode cX3_countWeights 95 = .ok (.iload_n 3, 1) := by decide +kernel
theorem dX3_countWeights_96 : decode cX3_countWeights 96 = .ok (.invokevirtual 47, 3) := by decide +kernel
theorem dX3_countWeights_99 : decode cX3_countWeights 99 = .ok (.iload 7, 2) := by decide +kernel
theorem dX3_countWeights_101 : decode cX3_countWeights 101 = .ok (.iadd, 1) := by decide +kernel
theorem dX3_countWeights_102 : decode cX3_countWeights 102 = .ok (.istore 8, 2) := by decide +kernel
theorem dX3_countWeights_104 : decode cX3_countWeights 104 = .ok (.iload 4, 2) := by decide +kernel
theorem dX3_countWeights_106 : decode cX3_countWeights 106 = .ok (.iload 8, 2) := by decide +kernel
theorem dX3_countWeights_108 : decode cX3_countWeights 108 = .ok (.invokestatic 50, 3) := by decide +kernel
theorem dX3_countWeights_111 : decode cX3_countWeights 111 = .ok (.istore 4, 2) := by decide +kernel
theorem dX3_countWeights_113 : decode cX3_countWeights 113 = .ok (.iload 5, 2) := by decide +kernel
theorem dX3_countWeights_115 : decode cX3_countWeights 115 = .ok (.iload 8, 2) := by decide +kernel
theorem dX3_countWeights_117 : decode cX3_countWeights 117 = .ok (.invokestatic 28, 3) := by decide +kernel
theorem dX3_countWeights_120 : decode cX3_countWeights 120 = .ok (.istore 5, 2) := by decide +kernel
theorem dX3_countWeights_122 : decode cX3_countWeights 122 = .ok (.goto 10, 3) := by decide +kernel
theorem dX3_countWeights_125 : decode cX3_countWeights 125 = .ok (.iload 7, 2) := by decide +kernel
theorem dX3_countWeights_127 : decode cX3_countWeights 127 = .ok (.ifCond .eq 5, 3) := by decide +kernel
theorem dX3_countWeights_130 : decode cX3_countWeights 130 = .ok (.iconst 0, 1) := by decide +kernel
theorem dX3_countWeights_131 : decode cX3_countWeights 131 = .ok (.ireturn, 1) := by decide +kernel
theorem dX3_countWeights_132 : decode cX3_countWeights 132 = .ok (.iinc 6 1, 3) := by decide +kernel
theorem dX3_countWeights_135 : decode cX3_countWeights 135 = .ok (.goto (-125), 3) := by decide +kernel
theorem dX3_countWeights_138 : decode cX3_countWeights 138 = .ok (.iconst 0, 1) := by decide +kernel
theorem dX3_countWeights_139 : decode cX3_countWeights 139 = .ok (.iload 5, 2) := by decide +kernel
theorem dX3_countWeights_141 : decode cX3_countWeights 141 = .ok (.iload 4, 2) := by decide +kernel
theorem dX3_countWeights_143 : decode cX3_countWeights 143 = .ok (.isub, 1) := by decide +kernel
theorem dX3_countWeights_144 : decode cX3_countWeights 144 = .ok (.iconst 1, 1) := by decide +kernel
theorem dX3_countWeights_145 : decode cX3_countWeights 145 = .ok (.iadd, 1) := by decide +kernel
theorem dX3_countWeights_146 : decode cX3_countWeights 146 = .ok (.invokestatic 50, 3) := by decide +kernel
theorem dX3_countWeights_149 : decode cX3_countWeights 149 = .ok (.ireturn, 1) := by decide +kernel
theorem dX4_init_0 : decode cX4_init 0 = .ok (.aload_n 0, 1) := by decide +kernel
theorem dX4_init_1 : decode cX4_init 1 = .ok (.invokespecial 3, 3) := by decide +kernel
theorem dX4_init_4 : decode cX4_init 4 = .ok (.aload_n 0, 1) := by decide +kernel
theorem dX4_init_5 : decode cX4_init 5 = .ok (.bipush 80, 2) := by decide +kernel
theorem dX4_init_7 : decode cX4_init 7 = .ok (.newarray .int, 2) := by decide +kernel
theorem dX4_init_9 : decode cX4_init 9 = .ok (.putfield 11, 3) := by decide +kernel
theorem dX4_init_12 : decode cX4_init 12 = .ok (.aload_n 0, 1) := by decide +kernel
theorem dX4_init_13 : decode cX4_init 13 = .ok (.bipush 12, 2) := by decide +kernel
theorem dX4_init_15 : decode cX4_init 15 = .ok (.newarray .int, 2) := by decide +kernel
theorem dX4_init_17 : decode cX4_init 17 = .ok (.putfield 15, 3) := by decide +kernel
theorem dX4_init_20 : decode cX4_init 20 = .ok (.return_, 1) := by decide +kernel
theorem dX4_size_0 : decode cX4_size 0 = .ok (.aload_n 0, 1) := by decide +kernel
theorem dX4_size_1 : decode cX4_size 1 = .ok (.getfield 18, 3) := by decide +kernel
theorem dX4_size_4 : decode cX4_size 4 = .ok (.ireturn, 1) := by decide +kernel
theorem dX4_put_0 : decode cX4_put 0 = .ok (.aload_n 0, 1) := by decide +kernel
theorem dX4_put_1 : decode cX4_put 1 = .ok (.getfield 18, 3) := by decide +kernel
theorem dX4_put_4 : decode cX4_put 4 = .ok (.bipush 80, 2) := by decide +kernel
theorem dX4_put_6 : decode cX4_put 6 = .ok (.if_icmp .lt 5, 3) := by decide +kernel
theorem dX4_put_9 : decode cX4_put 9 = .ok (.iconst 0, 1) := by decide +kernel
theorem dX4_put_10 : decode cX4_put 10 = .ok (.ireturn, 1) := by decide +kernel
theorem dX4_put_11 : decode cX4_put 11 = .ok (.aload_n 0, 1) := by decide +kernel
theorem dX4_put_12 : decode cX4_put 12 = .ok (.getfield 11, 3) := by decide +kernel
theorem dX4_put_15 : decode cX4_put 15 = .ok (.aload_n 0, 1) := by decide +kernel
theorem dX4_put_16 : decode cX4_put 16 = .ok (.getfield 18, 3) := by decide +kernel
theorem dX4_put_19 : decode cX4_put 19 = .ok (.iload_n 1, 1) := by decide +kernel
theorem dX4_put_20 : decode cX4_put 20 = .ok (.iastore, 1) := by decide +kernel
theorem dX4_put_21 : decode cX4_put 21 = .ok (.aload_n 0, 1) := by decide +kernel
theorem dX4_put_22 : decode cX4_put 22 = .ok (.dup, 1) := by decide +kernel
theorem dX4_put_23 : decode cX4_put 23 = .ok (.getfield 18, 3) := by decide +kernel
theorem dX4_put_26 : decode cX4_put 26 = .ok (.iconst 1, 1) := by decide +kernel
theorem dX4_put_27 : decode cX4_put 27 = .ok (.iadd, 1) := by decide +kernel
theorem dX4_put_28 : decode cX4_put 28 = .ok (.putfield 18, 3) := by decide +kernel
theorem dX4_put_31 : decode cX4_put 31 = .ok (.iconst 1, 1) := by decide +kernel
theorem dX4_put_32 : decode cX4_put 32 = .ok (.ireturn, 1) := by decide +kernel
theorem dX4_empty_0 : decode cX4_empty 0 = .ok (.aload_n 0, 1) := by decide +kernel
theorem dX4_empty_1 : decode cX4_empty 1 = .ok (.iconst 0, 1) := by decide +kernel
theorem dX4_empty_2 : decode cX4_empty 2 = .ok (.putfield 18, 3) := by decide +kernel
theorem dX4_empty_5 : decode cX4_empty 5 = .ok (.return_, 1) := by decide +kernel
theorem dX4_readInto_0 : decode cX4_readInto 0 = .ok (.aload_n 0, 1) := by decide +kernel
theorem dX4_readInto_1 : decode cX4_readInto 1 = .ok (.iconst 0, 1) := by decide +kernel
theorem dX4_readInto_2 : decode cX4_readInto 2 = .ok (.putfield 22, 3) := by decide +kernel
theorem dX4_readInto_5 : decode cX4_readInto 5 = .ok (.aload_n 0, 1) := by decide +kernel
theorem dX4_readInto_6 : decode cX4_readInto 6 = .ok (.bipush 70, 2) := by decide +kernel
theorem dX4_readInto_8 : decode cX4_readInto 8 = .ok (.bipush 70, 2) := by decide +kernel
theorem dX4_readInto_10 : decode cX4_readInto 10 = .ok (.invokevirtual 25, 3) := by decide +kernel
theorem dX4_readInto_13 : decode cX4_readInto 13 = .ok (.iconst (-1), 1) := by decide +kernel
theorem dX4_readInto_14 : decode cX4_readInto 14 = .ok (.if_icmp .ne 8, 3) := by decide +kernel
theorem dX4_readInto_17 : decode cX4_readInto 17 = .ok (.aload_n 0, 1) := by decide +kernel
theorem dX4_readInto_18 : decode cX4_readInto 18 = .ok (.getfield 22, 3) := by decide +kernel
theorem dX4_readInto_21 : decode cX4_readInto 21 = .ok (.ireturn, 1) := by decide +kernel
theorem dX4_readInto_22 : decode cX4_readInto 22 = .ok (.aload_n 0, 1) := by decide +kernel
theorem dX4_readInto_23 : decode cX4_readInto 23 = .ok (.iconst 1, 1) := by decide +kernel
theorem dX4_readInto_24 : decode cX4_readInto 24 = .ok (.bipush 12, 2) := by decide +kernel
theorem dX4_readInto_26 : decode cX4_readInto 26 = .ok (.invokevirtual 29, 3) := by decide +kernel
theorem dX4_readInto_29 : decode cX4_readInto 29 = .ok (.istore_n 2, 1) := by decide +kernel
theorem dX4_readInto_30 : decode cX4_readInto 30 = .ok (.iload_n 2, 1) := by decide +kernel
theorem dX4_readInto_31 : decode cX4_readInto 31 = .ok (.iconst (-1), 1) := by decide +kernel
theorem dX4_readInto_32 : decode cX4_readInto 32 = .ok (.if_icmp .ne 8, 3) := by decide +kernel
theorem dX4_readInto_35 : decode cX4_readInto 35 = .ok (.aload_n 0, 1) := by decide +kernel
theorem dX4_readInto_36 : decode cX4_readInto 36 = .ok (.getfield 22, 3) := by decide +kernel
theorem dX4_readInto_39 : decode cX4_readInto 39 = .ok (.ireturn, 1) := by decide +kernel
theorem dX4_readInto_40 : decode cX4_readInto 40 = .ok (.aload_n 1, 1) := by decide +kernel
theorem dX4_readInto_41 : decode cX4_readInto 41 = .ok (.iload_n 2, 1) := by decide +kernel
theorem dX4_readInto_42 : decode cX4_readInto 42 = .ok (.invokevirtual 32, 3) := by decide +kernel
theorem dX4_readInto_45 : decode cX4_readInto 45 = .ok (.aload_n 0, 1) := by decide +kernel
theorem dX4_readInto_46 : decode cX4_readInto 46 = .ok (.aload_n 1, 1) := by decide +kernel
theorem dX4_readInto_47 : decode cX4_readInto 47 = .ok (.invokevirtual 38, 3) := by decide +kernel
theorem dX4_readInto_50 : decode cX4_readInto 50 = .ok (.ifCond .eq 16, 3) := by decide +kernel
theorem dX4_readInto_53 : decode cX4_readInto 53 = .ok (.aload_n 0, 1) := by decide +kernel
theorem dX4_readInto_54 : decode cX4_readInto 54 = .ok (.aload_n 1, 1) := by decide +kernel
theorem dX4_readInto_55 : decode cX4_readInto 55 = .ok (.invokevirtual 42, 3) := by decide +kernel
theorem dX4_readInto_58 : decode cX4_readInto 58 = .ok (.ifCond .eq 8, 3) := by decide +kernel
theorem dX4_readInto_61 : decode cX4_readInto 61 = .ok (.bipush (-9), 2) := by decide +kernel
theorem dX4_readInto_63 : decode cX4_readInto 63 = .ok (.goto 7, 3) := by decide +kernel
theorem dX4_readInto_66 : decode cX4_readInto 66 = .ok (.aload_n 0, 1) := by decide +kernel
theorem dX4_readInto_67 : decode cX4_readInto 67 = .ok (.getfield 22, 3) := by decide +kernel
theorem dX4_readInto_70 : decode cX4_readInto 70 = .ok (.ireturn, 1) := by decide +kernel
theorem dX4_takeWeights_0 : decode cX4_takeWeights 0 = .ok (.iconst 0, 1) := by decide +kernel
theorem dX4_takeWeights_1 : decode cX4_takeWeights 1 = .ok (.istore_n 2, 1) := by decide +kernel
theorem dX4_takeWeights_2 : decode cX4_takeWeights 2 = .ok (.iload_n 2, 1) := by decide +kernel
theorem dX4_takeWeights_3 : decode cX4_takeWeights 3 = .ok (.aload_n 1, 1) := by decide +kernel
theorem dX4_takeWeights_4 : decode cX4_takeWeights 4 = .ok (.invokevirtual 45, 3) := by decide +kernel
theorem dX4_takeWeights_7 : decode cX4_takeWeights 7 = .ok (.if_icmp .ge 30, 3) := by decide +kernel
theorem dX4_takeWeights_10 : decode cX4_takeWeights 10 = .ok (.aload_n 0, 1) := by decide +kernel
theorem dX4_takeWeights_11 : decode cX4_takeWeights 11 = .ok (.iconst 0, 1) := by decide +kernel
theorem dX4_takeWeights_12 : decode cX4_takeWeights 12 = .ok (.bipush 99, 2) := by decide +kernel
theorem dX4_takeWeights_14 : decode cX4_takeWeights 14 = .ok (.invokevirtual 29, 3) := by decide +kernel
theorem dX4_takeWeights_17 : decode cX4_takeWeights 17 = .ok (.istore_n 3, 1) := by decide +kernel
theorem dX4_takeWeights_18 : decode cX4_takeWeights 18 = .ok (.iload_n 3, 1) := by decide +kernel
theorem dX4_takeWeights_19 : decode cX4_takeWeights 19 = .ok (.iconst (-1), 1) := by decide +kernel
theorem dX4_takeWeights_20 : decode cX4_takeWeights 20 = .ok (.if_icmp .ne 5, 3) := by decide +kernel
theorem dX4_takeWeights_23 : decode cX4_takeWeights 23 = .ok (.iconst 0, 1) := by decide +kernel
theorem dX4_takeWeights_24 : decode cX4_takeWeights 24 = .ok (.ireturn, 1) := by decide +kernel
theorem dX4_takeWeights_25 : decode cX4_takeWeights 25 = .ok (.aload_n 1, 1) := by decide +kernel
theorem dX4_takeWeights_26 : decode cX4_takeWeights 26 = .ok (.iload_n 2, 1) := by decide +kernel
theorem dX4_takeWeights_27 : decode cX4_takeWeights 27 = .ok (.iload_n 3, 1) := by decide +kernel
theorem dX4_takeWeights_28 : decode cX4_takeWeights 28 = .ok (.invokevirtual 49, 3) := by decide +kernel
theorem dX4_takeWeights_31 : decode cX4_takeWeights 31 = .ok (.iinc 2 1, 3) := by decide +kernel
theorem dX4_takeWeights_34 : decode cX4_takeWeights 34 = .ok (.goto (-32), 3) := by decide +kernel
theorem dX4_takeWeights_37 : decode cX4_takeWeights 37 = .ok (.iconst 1, 1) := by decide +kernel
theorem dX4_takeWeights_38 : decode cX4_takeWeights 38 = .ok (.ireturn, 1) := by decide +kernel
theorem dX4_takeEdges_0 : decode cX4_takeEdges 0 = .ok (.iconst 0, 1) := by decide +kernel
theorem dX4_takeEdges_1 : decode cX4_takeEdges 1 = .ok (.istore_n 2, 1) := by decide +kernel
theorem dX4_takeEdges_2 : decode cX4_takeEdges 2 = .ok (.iload_n 2, 1) := by decide +kernel
theorem dX4_takeEdges_3 : decode cX4_takeEdges 3 = .ok (.bipush 12, 2) := by decide +kernel
theorem dX4_takeEdges_5 : decode cX4_takeEdges 5 = .ok (.if_icmp .ge 16, 3) := by decide +kernel
theorem dX4_takeEdges_8 : decode cX4_takeEdges 8 = .ok (.aload_n 0, 1) := by decide +kernel
theorem dX4_takeEdges_9 : decode cX4_takeEdges 9 = .ok (.getfield 15, 3) := by decide +kernel
theorem dX4_takeEdges_12 : decode cX4_takeEdges 12 = .ok (.iload_n 2, 1) := by decide +kernel
theorem dX4_takeEdges_13 : decode cX4_takeEdges 13 = .ok (.iload_n 2, 1) := by decide +kernel
theorem dX4_takeEdges_14 : decode cX4_takeEdges 14 = .ok (.iastore, 1) := by decide +kernel
theorem dX4_takeEdges_15 : decode cX4_takeEdges 15 = .ok (.iinc 2 1, 3) := by decide +kernel
theorem dX4_takeEdges_18 : decode cX4_takeEdges 18 = .ok (.goto (-16), 3) := by decide +kernel
theorem dX4_takeEdges_21 : decode cX4_takeEdges 21 = .ok (.iconst 0, 1) := by decide +kernel
theorem dX4_takeEdges_22 : decode cX4_takeEdges 22 = .ok (.istore_n 2, 1) := by decide +kernel
theorem dX4_takeEdges_23 : decode cX4_takeEdges 23 = .ok (.iload_n 2, 1) := by decide +kernel
theorem dX4_takeEdges_24 : decode cX4_takeEdges 24 = .ok (.bipush 12, 2) := by decide +kernel
theorem dX4_takeEdges_26 : decode cX4_takeEdges 26 = .ok (.if_icmp .ge 30, 3) := by decide +kernel
theorem dX4_takeEdges_29 : decode cX4_takeEdges 29 = .ok (.aload_n 0, 1) := by decide +kernel
theorem dX4_takeEdges_30 : decode cX4_takeEdges 30 = .ok (.getfield 22, 3) := by decide +kernel
theorem dX4_takeEdges_33 : decode cX4_takeEdges 33 = .ok (.aload_n 0, 1) := by decide +kernel
theorem dX4_takeEdges_34 : decode cX4_takeEdges 34 = .ok (.getfield 18, 3) := by decide +kernel
theorem dX4_takeEdges_37 : decode cX4_takeEdges 37 = .ok (.if_icmp .ge 19, 3) := by decide +kernel
theorem dX4_takeEdges_40 : decode cX4_takeEdges 40 = .ok (.aload_n 0, 1) := by decide +kernel
theorem dX4_takeEdges_41 : decode cX4_takeEdges 41 = .ok (.aload_n 1, 1) := by decide +kernel
theorem dX4_takeEdges_42 : decode cX4_takeEdges 42 = .ok (.invokevirtual 53, 3) := by decide +kernel
theorem dX4_takeEdges_45 : decode cX4_takeEdges 45 = .ok (.ifCond .ne 5, 3) := by decide +kernel
theorem dX4_takeEdges_48 : decode cX4_takeEdges 48 = .ok (.iconst 0, 1) := by decide +kernel
theorem dX4_takeEdges_49 : decode cX4_takeEdges 49 = .ok (.ireturn, 1) := by decide +kernel
theorem dX4_takeEdges_50 : decode cX4_takeEdges 50 = .ok (.iinc 2 1, 3) := by decide +kernel
theorem dX4_takeEdges_53 : decode cX4_takeEdges 53 = .ok (.goto (-30), 3) := by decide +kernel
theorem dX4_takeEdges_56 : decode cX4_takeEdges 56 = .ok (.iconst 1, 1) := by decide +kernel
theorem dX4_takeEdges_57 : decode cX4_takeEdges 57 = .ok (.ireturn, 1) := by decide +kernel
theorem dX4_takeEdge_0 : decode cX4_takeEdge 0 = .ok (.bipush 97, 2) := by decide +kernel
theorem dX4_takeEdge_2 : decode cX4_takeEdge 2 = .ok (.aload_n 1, 1) := by decide +kernel
theorem dX4_takeEdge_3 : decode cX4_takeEdge 3 = .ok (.invokevirtual 45, 3) := by decide +kernel
theorem dX4_takeEdge_6 : decode cX4_takeEdge 6 = .ok (.iadd, 1) := by decide +kernel
theorem dX4_takeEdge_7 : decode cX4_takeEdge 7 = .ok (.iconst 1, 1) := by decide +kernel
theorem dX4_takeEdge_8 : decode cX4_takeEdge 8 = .ok (.isub, 1) := by decide +kernel
theorem dX4_takeEdge_9 : decode cX4_takeEdge 9 = .ok (.istore_n 2, 1) := by decide +kernel
theorem dX4_takeEdge_10 : decode cX4_takeEdge 10 = .ok (.aload_n 0, 1) := by decide +kernel
theorem dX4_takeEdge_11 : decode cX4_takeEdge 11 = .ok (.bipush 97, 2) := by decide +kernel
theorem dX4_takeEdge_13 : decode cX4_takeEdge 13 = .ok (.iload_n 2, 1) := by decide +kernel
theorem dX4_takeEdge_14 : decode cX4_takeEdge 14 = .ok (.invokevirtual 25, 3) := by decide +kernel
theorem dX4_takeEdge_17 : decode cX4_takeEdge 17 = .ok (.istore_n 3, 1) := by decide +kernel
theorem dX4_takeEdge_18 : decode cX4_takeEdge 18 = .ok (.iload_n 3, 1) := by decide +kernel
theorem dX4_takeEdge_19 : decode cX4_takeEdge 19 = .ok (.iconst (-1), 1) := by decide +kernel
theorem dX4_takeEdge_20 : decode cX4_takeEdge 20 = .ok (.if_icmp .ne 7, 3) := by decide +kernel
theorem dX4_takeEdge_23 : decode cX4_takeEdge 23 = .ok (.iconst (-1), 1) := by decide +kernel
theorem dX4_takeEdge_24 : decode cX4_takeEdge 24 = .ok (.goto 10, 3) := by decide +kernel
theorem dX4_takeEdge_27 : decode cX4_takeEdge 27 = .ok (.aload_n 0, 1) := by decide +kernel
theorem dX4_takeEdge_28 : decode cX4_takeEdge 28 = .ok (.bipush 97, 2) := by decide +kernel
theorem dX4_takeEdge_30 : decode cX4_takeEdge 30 = .ok (.iload_n 2, 1) := by decide +kernel
theorem dX4_takeEdge_31 : decode cX4_takeEdge 31 = .ok (.invokevirtual 25, 3) := by decide +kernel
theorem dX4_takeEdge_34 : decode cX4_takeEdge 34 = .ok (.istore 4, 2) := by decide +kernel
theorem dX4_takeEdge_36 : decode cX4_takeEdge 36 = .ok (.iload_n 3, 1) := by decide +kernel
theorem dX4_takeEdge_37 : decode cX4_takeEdge 37 = .ok (.iconst (-1), 1) := by decide +kernel
theorem dX4_takeEdge_38 : decode cX4_takeEdge 38 = .ok (.if_icmp .eq 9, 3) := by decide +kernel
theorem dX4_takeEdge_41 : decode cX4_takeEdge 41 = .ok (.iload 4, 2) := by decide +kernel
theorem dX4_takeEdge_43 : decode cX4_takeEdge 43 = .ok (.iconst (-1), 1) := by decide +kernel
theorem dX4_takeEdge_44 : decode cX4_takeEdge 44 = .ok (.if_icmp .ne 5, 3) := by decide +kernel
theorem dX4_takeEdge_47 : decode cX4_takeEdge 47 = .ok (.iconst 0, 1) := by decide +kernel
theorem dX4_takeEdge_48 : decode cX4_takeEdge 48 = .ok (.ireturn, 1) := by decide +kernel
theorem dX4_takeEdge_49 : decode cX4_takeEdge 49 = .ok (.aload_n 0, 1) := by decide +kernel
theorem dX4_takeEdge_50 : decode cX4_takeEdge 50 = .ok (.getfield 15, 3) := by decide +kernel
theorem dX4_takeEdge_53 : decode cX4_takeEdge 53 = .ok (.iload_n 3, 1) := by decide +kernel
theorem dX4_takeEdge_54 : decode cX4_takeEdge 54 = .ok (.iaload, 1) := by decide +kernel
theorem dX4_takeEdge_55 : decode cX4_takeEdge 55 = .ok (.aload_n 0, 1) := by decide +kernel
theorem dX4_takeEdge_56 : decode cX4_takeEdge 56 = .ok (.getfield 15, 3) := by decide +kernel
theorem dX4_takeEdge_59 : decode cX4_takeEdge 59 = .ok (.iload 4, 2) := by decide +kernel
theorem dX4_takeEdge_61 : decode cX4_takeEdge 61 = .ok (.iaload, 1) := by decide +kernel
theorem dX4_takeEdge_62 : decode cX4_takeEdge 62 = .ok (.if_icmp .ne 15, 3) := by decide +kernel
theorem dX4_takeEdge_65 : decode cX4_takeEdge 65 = .ok (.aload_n 0, 1) := by decide +kernel
theorem dX4_takeEdge_66 : decode cX4_takeEdge 66 = .ok (.dup, 1) := by decide +kernel
theorem dX4_takeEdge_67 : decode cX4_takeEdge 67 = .ok (.getfield 22, 3) := by decide +kernel
theorem dX4_takeEdge_70 : decode cX4_takeEdge 70 = .ok (.iconst 1, 1) := by decide +kernel
theorem dX4_takeEdge_71 : decode cX4_takeEdge 71 = .ok (.isub, 1) := by decide +kernel
theorem dX4_takeEdge_72 : decode cX4_takeEdge 72 = .ok (.putfield 22, 3) := by decide +kernel
theorem dX4_takeEdge_75 : decode cX4_takeEdge 75 = .ok (.iconst 0, 1) := by decide +kernel
theorem dX4_takeEdge_76 : decode cX4_takeEdge 76 = .ok (.ireturn, 1) := by decide +kernel
theorem dX4_takeEdge_77 : decode cX4_takeEdge 77 = .ok (.aload_n 0, 1) := by decide +kernel
theorem dX4_takeEdge_78 : decode cX4_takeEdge 78 = .ok (.iconst 1, 1) := by decide +kernel
theorem dX4_takeEdge_79 : decode cX4_takeEdge 79 = .ok (.bipush 99, 2) := by decide +kernel
theorem dX4_takeEdge_81 : decode cX4_takeEdge 81 = .ok (.invokevirtual 29, 3) := by decide +kernel
theorem dX4_takeEdge_84 : decode cX4_takeEdge 84 = .ok (.istore 5, 2) := by decide +kernel
theorem dX4_takeEdge_86 : decode cX4_takeEdge 86 = .ok (.iload 5, 2) := by decide +kernel
theorem dX4_takeEdge_88 : decode cX4_takeEdge 88 = .ok (.iconst (-1), 1) := by decide +kernel
theorem dX4_takeEdge_89 : decode cX4_takeEdge 89 = .ok (.if_icmp .ne 5, 3) := by decide +kernel
theorem dX4_takeEdge_92 : decode cX4_takeEdge 92 = .ok (.iconst 0, 1) := by decide +kernel
theorem dX4_takeEdge_93 : decode cX4_takeEdge 93 = .ok (.ireturn, 1) := by decide +kernel
theorem dX4_takeEdge_94 : decode cX4_takeEdge 94 = .ok (.aload_n 1, 1) := by decide +kernel
theorem dX4_takeEdge_95 : decode cX4_takeEdge 95 = .ok (.iload_n 3, 1) := by decide +kernel
theorem dX4_takeEdge_96 : decode cX4_takeEdge 96 = .ok (.iload 4, 2) := by decide +kernel
theorem dX4_takeEdge_98 : decode cX4_takeEdge 98 = .ok (.iload 5, 2) := by decide +kernel
theorem dX4_takeEdge_100 : decode cX4_takeEdge 100 = .ok (.invokevirtual 56, 3) := by decide +kernel
theorem dX4_takeEdge_103 : decode cX4_takeEdge 103 = .ok (.aload_n 0, 1) := by decide +kernel
theorem dX4_takeEdge_104 : decode cX4_takeEdge 104 = .ok (.aload_n 0, 1) := by decide +kernel
theorem dX4_takeEdge_105 : decode cX4_takeEdge 105 = .ok (.getfield 15, 3) := by decide +kernel
theorem dX4_takeEdge_108 : decode cX4_takeEdge 108 = .ok (.iload_n 3, 1) := by decide +kernel
theorem dX4_takeEdge_109 : decode cX4_takeEdge 109 = .ok (.iaload, 1) := by decide +kernel
theorem dX4_takeEdge_110 : decode cX4_takeEdge 110 = .ok (.aload_n 0, 1) := by decide +kernel
theorem dX4_takeEdge_111 : decode cX4_takeEdge 111 = .ok (.getfield 15, 3) := by decide +kernel
theorem dX4_takeEdge_114 : decode cX4_takeEdge 114 = .ok (.iload 4, 2) := by decide +kernel
theorem dX4_takeEdge_116 : decode cX4_takeEdge 116 = .ok (.iaload, 1) := by decide +kernel
theorem dX4_takeEdge_117 : decode cX4_takeEdge 117 = .ok (.invokevirtual 60, 3) := by decide +kernel
theorem dX4_takeEdge_120 : decode cX4_takeEdge 120 = .ok (.iconst 1, 1) := by decide +kernel
theorem dX4_takeEdge_121 : decode cX4_takeEdge 121 = .ok (.ireturn, 1) := by decide +kernel
theorem dX4_joinTrees_0 : decode cX4_joinTrees 0 = .ok (.iconst 0, 1) := by decide +kernel
theorem dX4_joinTrees_1 : decode cX4_joinTrees 1 = .ok (.istore_n 3, 1) := by decide +kernel
theorem dX4_joinTrees_2 : decode cX4_joinTrees 2 = .ok (.iload_n 3, 1) := by decide +kernel
theorem dX4_joinTrees_3 : decode cX4_joinTrees 3 = .ok (.bipush 12, 2) := by decide +kernel
theorem dX4_joinTrees_5 : decode cX4_joinTrees 5 = .ok (.if_icmp .ge 26, 3) := by decide +kernel
theorem dX4_joinTrees_8 : decode cX4_joinTrees 8 = .ok (.aload_n 0, 1) := by decide +kernel
theorem dX4_joinTrees_9 : decode cX4_joinTrees 9 = .ok (.getfield 15, 3) := by decide +kernel
theorem dX4_joinTrees_12 : decode cX4_joinTrees 12 = .ok (.iload_n 3, 1) := by decide +kernel
theorem dX4_joinTrees_13 : decode cX4_joinTrees 13 = .ok (.iaload, 1) := by decide +kernel
theorem dX4_joinTrees_14 : decode cX4_joinTrees 14 = .ok (.iload_n 2, 1) := by decide +kernel
theorem dX4_joinTrees_15 : decode cX4_joinTrees 15 = .ok (.if_icmp .ne 10, 3) := by decide +kernel
theorem dX4_joinTrees_18 : decode cX4_joinTrees 18 = .ok (.aload_n 0, 1) := by decide +kernel
theorem dX4_joinTrees_19 : decode cX4_joinTrees 19 = .ok (.getfield 15, 3) := by decide +kernel
theorem dX4_joinTrees_22 : decode cX4_joinTrees 22 = .ok (.iload_n 3, 1) := by decide +kernel
theorem dX4_joinTrees_23 : decode cX4_joinTrees 23 = .ok (.iload_n 1, 1) := by decide +kernel
theorem dX4_joinTrees_24 : decode cX4_joinTrees 24 = .ok (.iastore, 1) := by decide +kernel
theorem dX4_joinTrees_25 : decode cX4_joinTrees 25 = .ok (.iinc 3 1, 3) := by decide +kernel
theorem dX4_joinTrees_28 : decode cX4_joinTrees 28 = .ok (.goto (-26), 3) := by decide +kernel
theorem dX4_joinTrees_31 : decode cX4_joinTrees 31 = .ok (.return_, 1) := by decide +kernel
theorem dX4_takeNumber_0 : decode cX4_takeNumber 0 = .ok (.aload_n 0, 1) := by decide +kernel
theorem dX4_takeNumber_1 : decode cX4_takeNumber 1 = .ok (.bipush 48, 2) := by decide +kernel
theorem dX4_takeNumber_3 : decode cX4_takeNumber 3 = .ok (.bipush 48, 2) := by decide +kernel
theorem dX4_takeNumber_5 : decode cX4_takeNumber 5 = .ok (.iload_n 2, 1) := by decide +kernel
theorem dX4_takeNumber_6 : decode cX4_takeNumber 6 = .ok (.bipush 10, 2) := by decide +kernel
theorem dX4_takeNumber_8 : decode cX4_takeNumber 8 = .ok (.idiv, 1) := by decide +kernel
theorem dX4_takeNumber_9 : decode cX4_takeNumber 9 = .ok (.iadd, 1) := by decide +kernel
theorem dX4_takeNumber_10 : decode cX4_takeNumber 10 = .ok (.invokevirtual 25, 3) := by decide +kernel
theorem dX4_takeNumber_13 : decode cX4_takeNumber 13 = .ok (.istore_n 3, 1) := by decide +kernel
theorem dX4_takeNumber_14 : decode cX4_takeNumber 14 = .ok (.iload_n 3, 1) := by decide +kernel
theorem dX4_takeNumber_15 : decode cX4_takeNumber 15 = .ok (.iconst (-1), 1) := by decide +kernel
theorem dX4_takeNumber_16 : decode cX4_takeNumber 16 = .ok (.if_icmp .ne 5, 3) := by decide +kernel
theorem dX4_takeNumber_19 : decode cX4_takeNumber 19 = .ok (.iconst (-1), 1) := by decide +kernel
theorem dX4_takeNumber_20 : decode cX4_takeNumber 20 = .ok (.ireturn, 1) := by decide +kernel
theorem dX4_takeNumber_21 : decode cX4_takeNumber 21 = .ok (.iload_n 3, 1) := by decide +kernel
theorem dX4_takeNumber_22 : decode cX4_takeNumber 22 = .ok (.ifCond .ne 7, 3) := by decide +kernel
theorem dX4_takeNumber_25 : decode cX4_takeNumber 25 = .ok (.iload_n 1, 1) := by decide +kernel
theorem dX4_takeNumber_26 : decode cX4_takeNumber 26 = .ok (.goto 4, 3) := by decide +kernel
theorem dX4_takeNumber_29 : decode cX4_takeNumber 29 = .ok (.iconst 0, 1) := by decide +kernel
theorem dX4_takeNumber_30 : decode cX4_takeNumber 30 = .ok (.istore 4, 2) := by decide +kernel
theorem dX4_takeNumber_32 : decode cX4_takeNumber 32 = .ok (.iload_n 3, 1) := by decide +kernel
theorem dX4_takeNumber_33 : decode cX4_takeNumber 33 = .ok (.iload_n 2, 1) := by decide +kernel
theorem dX4_takeNumber_34 : decode cX4_takeNumber 34 = .ok (.bipush 10, 2) := by decide +kernel
theorem dX4_takeNumber_36 : decode cX4_takeNumber 36 = .ok (.idiv, 1) := by decide +kernel
theorem dX4_takeNumber_37 : decode cX4_takeNumber 37 = .ok (.if_icmp .ne 10, 3) := by decide +kernel
theorem dX4_takeNumber_40 : decode cX4_takeNumber 40 = .ok (.iload_n 2, 1) := by decide +kernel
theorem dX4_takeNumber_41 : decode cX4_takeNumber 41 = .ok (.bipush 10, 2) := by decide +kernel
theorem dX4_takeNumber_43 : decode cX4_takeNumber 43 = .ok (.irem, 1) := by decide +kernel
theorem dX4_takeNumber_44 : decode cX4_takeNumber 44 = .ok (.goto 5, 3) := by decide +kernel
theorem dX4_takeNumber_47 : decode cX4_takeNumber 47 = .ok (.bipush 9, 2) := by decide +kernel
theorem dX4_takeNumber_49 : decode cX4_takeNumber 49 = .ok (.istore 5, 2) := by decide +kernel
theorem dX4_takeNumber_51 : decode cX4_takeNumber 51 = .ok (.aload_n 0, 1) := by decide +kernel
theorem dX4_takeNumber_52 : decode cX4_takeNumber 52 = .ok (.bipush 48, 2) := by decide +kernel
theorem dX4_takeNumber_54 : decode cX4_takeNumber 54 = .ok (.iload 4, 2) := by decide +kernel
theorem dX4_takeNumber_56 : decode cX4_takeNumber 56 = .ok (.iadd, 1) := by decide +kernel
theorem dX4_takeNumber_57 : decode cX4_takeNumber 57 = .ok (.bipush 48, 2) := by decide +kernel
theorem dX4_takeNumber_59 : decode cX4_takeNumber 59 = .ok (.iload 5, 2) := by decide +kernel
theorem dX4_takeNumber_61 : decode cX4_takeNumber 61 = .ok (.iadd, 1) := by decide +kernel
theorem dX4_takeNumber_62 : decode cX4_takeNumber 62 = .ok (.invokevirtual 25, 3) := by decide +kernel
theorem dX4_takeNumber_65 : decode cX4_takeNumber 65 = .ok (.istore 6, 2) := by decide +kernel
theorem dX4_takeNumber_67 : decode cX4_takeNumber 67 = .ok (.iload 6, 2) := by decide +kernel
theorem dX4_takeNumber_69 : decode cX4_takeNumber 69 = .ok (.iconst (-1), 1) := by decide +kernel
theorem dX4_takeNumber_70 : decode cX4_takeNumber 70 = .ok (.if_icmp .ne 7, 3) := by decide +kernel
theorem dX4_takeNumber_73 : decode cX4_takeNumber 73 = .ok (.iconst (-1), 1) := by decide +kernel
theorem dX4_takeNumber_74 : decode cX4_takeNumber 74 = .ok (.goto 13, 3) := by decide +kernel
theorem dX4_takeNumber_77 : decode cX4_takeNumber 77 = .ok (.bipush 10, 2) := by decide +kernel
theorem dX4_takeNumber_79 : decode cX4_takeNumber 79 = .ok (.iload_n 3, 1) := by decide +kernel
theorem dX4_takeNumber_80 : decode cX4_takeNumber 80 = .ok (.imul, 1) := by decide +kernel
theorem dX4_takeNumber_81 : decode cX4_takeNumber 81 = .ok (.iload 4, 2) := by decide +kernel
theorem dX4_takeNumber_83 : decode cX4_takeNumber 83 = .ok (.iadd, 1) := by decide +kernel
theorem dX4_takeNumber_84 : decode cX4_takeNumber 84 = .ok (.iload 6, 2) := by decide +kernel
theorem dX4_takeNumber_86 : decode cX4_takeNumber 86 = .ok (.iadd, 1) := by decide +kernel
theorem dX4_takeNumber_87 : decode cX4_takeNumber 87 = .ok (.ireturn, 1) := by decide +kernel
theorem dX4_take_0 : decode cX4_take 0 = .ok (.aload_n 0, 1) := by decide +kernel
theorem dX4_take_1 : decode cX4_take 1 = .ok (.getfield 22, 3) := by decide +kernel
theorem dX4_take_4 : decode cX4_take 4 = .ok (.aload_n 0, 1) := by decide +kernel
theorem dX4_take_5 : decode cX4_take 5 = .ok (.getfield 18, 3) := by decide +kernel
theorem dX4_take_8 : decode cX4_take 8 = .ok (.if_icmp .lt 5, 3) := by decide +kernel
theorem dX4_take_11 : decode cX4_take 11 = .ok (.iconst (-1), 1) := by decide +kernel
theorem dX4_take_12 : decode cX4_take 12 = .ok (.ireturn, 1) := by decide +kernel
theorem dX4_take_13 : decode cX4_take 13 = .ok (.aload_n 0, 1) := by decide +kernel
theorem dX4_take_14 : decode cX4_take 14 = .ok (.getfield 11, 3) := by decide +kernel
theorem dX4_take_17 : decode cX4_take 17 = .ok (.aload_n 0, 1) := by decide +kernel
theorem dX4_take_18 : decode cX4_take 18 = .ok (.getfield 22, 3) := by decide +kernel
theorem dX4_take_21 : decode cX4_take 21 = .ok (.iaload, 1) := by decide +kernel
theorem dX4_take_22 : decode cX4_take 22 = .ok (.istore_n 3, 1) := by decide +kernel
theorem dX4_take_23 : decode cX4_take 23 = .ok (.iload_n 3, 1) := by decide +kernel
theorem dX4_take_24 : decode cX4_take 24 = .ok (.iload_n 1, 1) := by decide +kernel
theorem dX4_take_25 : decode cX4_take 25 = .ok (.if_icmp .lt 8, 3) := by decide +kernel
theorem dX4_take_28 : decode cX4_take 28 = .ok (.iload_n 3, 1) := by decide +kernel
theorem dX4_take_29 : decode cX4_take 29 = .ok (.iload_n 2, 1) := by decide +kernel
theorem dX4_take_30 : decode cX4_take 30 = .ok (.if_icmp .le 5, 3) := by decide +kernel
theorem dX4_take_33 : decode cX4_take 33 = .ok (.iconst (-1), 1) := by decide +kernel
theorem dX4_take_34 : decode cX4_take 34 = .ok (.ireturn, 1) := by decide +kernel
theorem dX4_take_35 : decode cX4_take 35 = .ok (.aload_n 0, 1) := by decide +kernel
theorem dX4_take_36 : decode cX4_take 36 = .ok (.dup, 1) := by decide +kernel
theorem dX4_take_37 : decode cX4_take 37 = .ok (.getfield 22, 3) := by decide +kernel
theorem dX4_take_40 : decode cX4_take 40 = .ok (.iconst 1, 1) := by decide +kernel
theorem dX4_take_41 : decode cX4_take 41 = .ok (.iadd, 1) := by decide +kernel
theorem dX4_take_42 : decode cX4_take 42 = .ok (.putfield 22, 3) := by decide +kernel
theorem dX4_take_45 : decode cX4_take 45 = .ok (.iload_n 3, 1) := by decide +kernel
theorem dX4_take_46 : decode cX4_take 46 = .ok (.iload_n 1, 1) := by decide +kernel
theorem dX4_take_47 : decode cX4_take 47 = .ok (.isub, 1) := by decide +kernel
theorem dX4_take_48 : decode cX4_take 48 = .ok (.ireturn, 1) := by decide +kernel
theorem dJ7_fill_53178_0 : decode cJ7_fill_53178 0 = .ok (.iconst 0, 1) := by decide +kernel
theorem dJ7_fill_53178_1 : decode cJ7_fill_53178 1 = .ok (.istore_n 2, 1) := by decide +kernel
theorem dJ7_fill_53178_2 : decode cJ7_fill_53178 2 = .ok (.aload_n 0, 1) := by decide +kernel
theorem dJ7_fill_53178_3 : decode cJ7_fill_53178 3 = .ok (.arraylength, 1) := by decide +kernel
theorem dJ7_fill_53178_4 : decode cJ7_fill_53178 4 = .ok (.istore_n 3, 1) := by decide +kernel
theorem dJ7_fill_53178_5 : decode cJ7_fill_53178 5 = .ok (.iload_n 2, 1) := by decide +kernel
theorem dJ7_fill_53178_6 : decode cJ7_fill_53178 6 = .ok (.iload_n 3, 1) := by decide +kernel
theorem dJ7_fill_53178_7 : decode cJ7_fill_53178 7 = .ok (.if_icmp .ge 13, 3) := by decide +kernel
theorem dJ7_fill_53178_10 : decode cJ7_fill_53178 10 = .ok (.aload_n 0, 1) := by decide +kernel
theorem dJ7_fill_53178_11 : decode cJ7_fill_53178 11 = .ok (.iload_n 2, 1) := by decide +kernel
theorem dJ7_fill_53178_12 : decode cJ7_fill_53178 12 = .ok (.iload_n 1, 1) := by decide +kernel
theorem dJ7_fill_53178_13 : decode cJ7_fill_53178 13 = .ok (.iastore, 1) := by decide +kernel
theorem dJ7_fill_53178_14 : decode cJ7_fill_53178 14 = .ok (.iinc 2 1, 3) := by decide +kernel
theorem dJ7_fill_53178_17 : decode cJ7_fill_53178 17 = .ok (.goto (-12), 3) := by decide +kernel
theorem dJ7_fill_53178_20 : decode cJ7_fill_53178 20 = .ok (.return_, 1) := by decide +kernel
end
section
/-! THE BASE: all cells of the run as one numbered row of cells; a memory of ints over a fixed shape; one judgement Xg with a rule an instruction -/
def TB : List Cond := lw_tbl.filter goodWord
theorem TB_in {w : Cond} (i : Nat) (h : lw_tbl[i]? = some w) (g : goodWord w = true) : w ∈ TB := List.mem_filter.mpr ⟨List.mem_of_getElem? h, g⟩
theorem TB_good {w : Cond} (h : w ∈ TB) : (w.onTables && w.keeps) = true ∨ ∃ ty, w = .arrayClass ty := good_of_word (List.mem_filter.mp h).2
theorem TB_tbl {w : Cond} (h : w ∈ TB) : w ∈ lw_tbl := (List.mem_filter.mp h).1
/-- a method: its name, code, locals, what it returns, its room -/
abbrev MTy : Type := MethodName × ByteArray × Nat × Option FieldType × Room
abbrev Mem : Type := Nat → Nat → Int32
abbrev Lv : Type := List (Nat × Value)
/-- the numbered cells: the class numbers, the four array kinds, how many cells, their addresses, cells of another content -/
abbrev Gx : Type := va_G × (ClassId × ClassId × ClassId × ClassId) × Nat × (Nat → Nat) × (Nat → Option va_E)
abbrev gD (G : Gx) : va_G := G.1
abbrev gC (G : Gx) : ClassId × ClassId × ClassId × ClassId := G.2.1
abbrev gK (G : Gx) : Nat := G.2.2.1
abbrev gA (G : Gx) : Nat → Nat := G.2.2.2.1
abbrev gO (G : Gx) : Nat → Option va_E := G.2.2.2.2
abbrev T4 (cs : ClassId × ClassId × ClassId × ClassId) : List (ClassId × FieldType) := [(cs.1, .int), (cs.2.1, .boolean), (cs.2.2.1, .object RX1), (cs.2.2.2, .array .int)]
def wd (K : Nat) (ad : Nat → Nat) (ct : Nat → va_E) : va_W := (List.range K).map (fun i => (ad i, ct i))
theorem wd_at {K : Nat} {ad : Nat → Nat} {ct : Nat → va_E} {j : Nat} (h : j < K) : (wd K ad ct)[j]? = some (ad j, ct j) := by
  simp [wd, h]
theorem wd_len {K : Nat} {ad : Nat → Nat} {ct : Nat → va_E} : (wd K ad ct).length = K := by simp [wd]
theorem wd_mem {K : Nat} {ad : Nat → Nat} {ct : Nat → va_E} {k : Nat} {q : Nat × va_E} (h : (wd K ad ct)[k]? = some q) : k < K ∧ q = (ad k, ct k) := by
  have hk : k < K := by have := (List.getElem?_eq_some_iff.mp h).1; rwa [wd_len] at this
  rw [wd_at hk] at h
  exact ⟨hk, (Option.some.inj h).symm⟩
theorem wd_set {K : Nat} {ad : Nat → Nat} {ct ct' : Nat → va_E} {j : Nat} {e : va_E} (h : j < K) (he : ct' j = e) (ho : ∀ i, i ≠ j → ct' i = ct i) : (wd K ad ct).set j (ad j, e) = wd K ad ct' := by
  apply List.ext_getElem?
  intro i
  by_cases hij : i = j
  · subst hij
    rw [List.getElem?_set_self (by rw [wd_len]; exact h), wd_at h, he]
  · rw [List.getElem?_set_ne (Ne.symm hij)]
    by_cases hi : i < K
    · rw [wd_at hi, wd_at hi, ho i hij]
    · rw [List.getElem?_eq_none (by rw [wd_len]; omega), List.getElem?_eq_none (by rw [wd_len]; omega)]
theorem wd_congr {K : Nat} {ad ad' : Nat → Nat} {ct ct' : Nat → va_E} (h : ∀ i, i < K → ct i = ct' i) (h2 : ∀ i, i < K → ad i = ad' i) : wd K ad ct = wd K ad' ct' := by
  unfold wd
  apply List.map_congr_left
  intro i hi
  rw [h i (List.mem_range.mp hi), h2 i (List.mem_range.mp hi)]
theorem wd_push {K : Nat} {ad : Nat → Nat} {ct : Nat → va_E} : wd (K + 1) ad ct = wd K ad ct ++ [(ad K, ct K)] := by
  simp [wd, List.range_succ]
/-! the shape -/
def rI (cs : ClassId × ClassId × ClassId × ClassId) (n : Nat) (r : Nat → Int32) : va_E := .inl (cs.1, n, .inl r)
def rZ (cs : ClassId × ClassId × ClassId × ClassId) (n : Nat) (r : Nat → Int32) : va_E := .inl (cs.2.1, n, .inl r)
def rF (cs : ClassId × ClassId × ClassId × ClassId) (n : Nat) (f : Nat → Option Nat) : va_E := .inl (cs.2.2.1, n, .inr (.inr (.inr (.inr f))))
def rR (cs : ClassId × ClassId × ClassId × ClassId) (n : Nat) (f : Nat → Option Nat) : va_E := .inl (cs.2.2.2, n, .inr (.inr (.inr (.inr f))))
/-- a forest's fifteen cells, from b on -/
def cF (cs : ClassId × ClassId × ClassId × ClassId) (ad : Nat → Nat) (b i : Nat) (r : Nat → Int32) : va_E :=
  if i = 0 then .inr (1, [.int (r 0), .ref (ad (b + 1)), .ref (ad (b + 2))]) else if i = 2 then rR cs 12 (fun k => if k < 12 then some (ad (b + 3 + k)) else none) else rI cs 12 r
/-- a survey's fourteen cells -/
def cS (cs : ClassId × ClassId × ClassId × ClassId) (ad : Nat → Nat) (f b i : Nat) (r : Nat → Int32) : va_E :=
  if i = 0 then .inr (5, [.ref (ad f), .int (r 1), .ref (ad (b + 1))]) else if i = 1 then rR cs 12 (fun k => if k < 12 then some (ad (b + 2 + k)) else none) else rI cs 12 r
def cC (cs : ClassId × ClassId × ClassId × ClassId) (ad : Nat → Nat) (j : Nat) (r : Nat → Int32) : va_E :=
  if j = 59 then .inr (0, [.int (r 0), .int (r 1), .int (r 2), .ref (ad 60), .ref (ad 61), .ref (ad 62), .ref (ad 63)]) else if j = 60 then rZ cs 12 r else if j = 61 then rZ cs 12 r else if j = 63 then rR cs 12 (fun k => if k < 12 then some (ad (64 + k)) else none) else rI cs 12 r
def cT (cs : ClassId × ClassId × ClassId × ClassId) (ad : Nat → Nat) (j : Nat) (r : Nat → Int32) : va_E :=
  if j = 76 then .inr (4, [.int (r 0), .ref (ad 77), .int (r 2), .ref (ad 78)]) else if j = 77 then rI cs 80 r else if j = 78 then rI cs 12 r else if j = 79 then .inr (2, [.ref (ad 80), .int (r 1), .int (r 2)]) else rF cs 14 (fun k => if k < 14 then some (ad (81 + 15 * k)) else none)
def cO (cs : ClassId × ClassId × ClassId × ClassId) (ad : Nat → Nat) (j : Nat) (r : Nat → Int32) : va_E :=
  if j = 291 then .inr (3, [.ref (ad 292), .ref (ad 293), .ref (ad 294), .int (r 3), .int (r 4)]) else if j = 295 then rF cs 2 (fun k => if k < 2 then some (ad (296 + 15 * k)) else none) else rI cs 6 r
def cM (cs : ClassId × ClassId × ClassId × ClassId) (ad : Nat → Nat) (j : Nat) (r : Nat → Int32) : va_E :=
  if j = 327 then .inr (7, [.ref (ad 328), .int (r 1), .int (r 2), .int (r 3), .int (r 4), .ref (ad 329), .ref (ad 330), .ref (ad 331), .ref (ad 332), .int (r 9), .int (r 10), .ref (ad 333), .ref (ad 334), .ref (ad 335), .int (r 14), .ref (ad 336), .ref (ad 337), .ref (ad 338), .ref (ad 339), .ref (ad 340), .ref (ad 341), .ref (ad 342), .int (r 22), .int (r 23)])
  else if j = 328 then rI cs 80 r else if j < 332 then rI cs 156 r else if j = 332 then rI cs 2184 r else if j = 333 then rI cs 312 r else if j = 334 then rZ cs 2 r else if j = 335 then rI cs 18 r else if j < 339 then rI cs 12 r else if j = 339 then rI cs 144 r else if j = 340 then rZ cs 12 r else if j = 341 then rZ cs 12 r else rI cs 12 r
/-- what the cell of number j is, with the ints r -/
def cellAt (cs : ClassId × ClassId × ClassId × ClassId) (ad : Nat → Nat) (j : Nat) (r : Nat → Int32) : va_E :=
  if j = 0 then .inr (6, [.ref (ad 1), .ref (ad 16), .ref (ad 30), .ref (ad 45), .ref (ad 59), .ref (ad 76), .ref (ad 79), .ref (ad 291), .ref (ad 295), .ref (ad 326)])
  else if j < 16 then cF cs ad 1 (j - 1) r else if j < 30 then cS cs ad 1 16 (j - 16) r else if j < 45 then cF cs ad 30 (j - 30) r else if j < 59 then cS cs ad 30 45 (j - 45) r
  else if j < 76 then cC cs ad j r else if j < 81 then cT cs ad j r else if j < 291 then cF cs ad (81 + 15 * ((j - 81) / 15)) ((j - 81) % 15) r else if j < 296 then cO cs ad j r
  else if j < 326 then cF cs ad (296 + 15 * ((j - 296) / 15)) ((j - 296) % 15) r else if j = 326 then rZ cs 2 r else cM cs ad j r
def cellR (G : Gx) (j : Nat) (r : Nat → Int32) : va_E := match gO G j with
  | some e => e
  | none => cellAt (gC G) (gA G) j r
abbrev cellOf (G : Gx) (m : Mem) : Nat → va_E := fun j => cellR G j (m j)
def wrA (m : Mem) (j : Nat) (g : Nat → Int32) : Mem := fun a => if a = j then g else m a
abbrev wr (m : Mem) (j k : Nat) (v : Int32) : Mem := wrA m j (upd (m j) k v)
/-! the judgement -/
def Cx (M : MTy) (A : State → Nat → Prop) (E : Array Value → State → Prop) (G : Gx) (p : Program) (s : State) (m : MethodId) (args : Array Value) (meth : Method) (c : Code) : Prop :=
  p.tables.exec = Jvm.exec ∧ c.code = M.2.1 ∧ c.maxLocals = M.2.2.1 ∧ s.vm.findClass M.1.cls = some m.cls ∧ (∀ w ∈ TB, w.before args s = true) ∧ meth.sig.returnType = M.2.2.2.1 ∧ meth.locks = false ∧ meth.name = M.1.name ∧ va_K (gD G) vwCl (T4 (gC G)) s ∧ (∀ q, s.heap.size ≤ q → A s q) ∧ E args s
def Xg (l : Launch) (M : MTy) (A : State → Nat → Prop) (Z : List Frame → Array Value → State → State → Prop) (E : Array Value → State → Prop) (G : Gx) (cells slots : Nat) (mem : Mem) (pc : Nat) (lv : Lv) (st : List Value) : Prop :=
  ∀ (p : Program) (e : Env) (s : State) (m : MethodId) (args : Array Value) (below : List Frame) (meth : Method) (c : Code) (H : Heap) (locs : List Loc) (ls : Array Slot),
    Cx M A E G p s m args meth c → va_P (gD G) vwCl (wd (gK G) (gA G) (cellOf G mem)) H → va_D (A s) (wd (gK G) (gA G) (cellOf G mem)) → va_S (A s) s.heap H locs → lv_has ls M.2.2.1 lv →
    W p l e M.2.2.2.2 s m args below meth c H locs cells slots (Z below args s) (F0 m pc ls st)
/-- which cells a method may change -/
def Fr (G : Gx) (sz : Nat) : Nat → Prop := fun q => (∃ i, i < gK G ∧ q = gA G i) ∨ sz ≤ q
/-- what a method's end says -/
def Qm (G : Gx) (P : Option Value → Gx → Mem → Prop) (sz : Nat) : Array Value → State → Outcome → State → Prop := fun _ st oc t =>
  (∃ (o : Option Value) (G' : Gx) (mem' : Mem), oc = .returned o ∧ P o G' mem' ∧ gD G' = gD G ∧ gC G' = gC G ∧ va_P (gD G) vwCl (wd (gK G') (gA G') (cellOf G' mem')) t.heap ∧ va_D (Fr G sz) (wd (gK G') (gA G') (cellOf G' mem'))) ∧ va_F (Fr G sz) st t
def Pm (G : Gx) (mem : Mem) (sz : Nat) : State → Prop := fun U => U.heap.size = sz ∧ va_P (gD G) vwCl (wd (gK G) (gA G) (cellOf G mem)) U.heap ∧ va_K (gD G) vwCl (T4 (gC G)) U ∧ va_D (fun _ => True) (wd (gK G) (gA G) (cellOf G mem))
abbrev wsM (M : MTy) : List Cond := Cond.code M.1 M.2.1 M.2.2.1 M.2.2.2.1 :: TB
/-- CONTRACT: from the memory mem, with the arguments As, the method returns, and its answer, the cells and the memory satisfy P -/
def Ctg (l : Launch) (M : MTy) (G : Gx) (mc ms : Nat) (As : List Value) (mem : Mem) (P : Option Value → Gx → Mem → Prop) : Prop :=
  ∀ sz : Nat, Met l M.1 (wsM M) M.2.2.2.2 (va_Pc As (Pm G mem sz)) (Qm G P sz) mc ms (Fr G sz)
abbrev Ct (l : Launch) (M : MTy) (G : Gx) (As : List Value) (mem : Mem) (P : Option Value → Mem → Prop) : Prop := Ctg l M G 0 0 As mem (fun o G' m' => G' = G ∧ P o m')
abbrev CtI (l : Launch) (M : MTy) (G : Gx) (As : List Value) (mem : Mem) (P : Int32 → Mem → Prop) : Prop := Ct l M G As mem (fun o m' => ∃ r, o = some (.int r) ∧ P r m')
abbrev CtL (l : Launch) (M : MTy) (G : Gx) (As : List Value) (mem : Mem) (P : Int64 → Mem → Prop) : Prop := Ct l M G As mem (fun o m' => ∃ r, o = some (.long r) ∧ P r m')
abbrev CtV (l : Launch) (M : MTy) (G : Gx) (As : List Value) (mem : Mem) (P : Mem → Prop) : Prop := Ct l M G As mem (fun o m' => o = none ∧ P m')
/-- the judgement inside a method of a contract that answers P -/
abbrev Xm (l : Launch) (M : MTy) (G0 : Gx) (mc ms : Nat) (P : Option Value → Gx → Mem → Prop) (G : Gx) (cells slots : Nat) (mem : Mem) (pc : Nat) (lv : Lv) (st : List Value) : Prop :=
  Xg l M (fun s => Fr G0 s.heap.size) (fun below args s => MQ below (Qm G0 P s.heap.size) args s mc ms (Fr G0 s.heap.size)) (fun _ _ => True) G cells slots mem pc lv st
abbrev XI (l : Launch) (M : MTy) (G : Gx) (P : Int32 → Mem → Prop) (mem : Mem) (pc : Nat) (lv : Lv) (st : List Value) : Prop := Xm l M G 0 0 (fun o G' m' => G' = G ∧ ∃ r, o = some (.int r) ∧ P r m') G 0 0 mem pc lv st
abbrev XL (l : Launch) (M : MTy) (G : Gx) (P : Int64 → Mem → Prop) (mem : Mem) (pc : Nat) (lv : Lv) (st : List Value) : Prop := Xm l M G 0 0 (fun o G' m' => G' = G ∧ ∃ r, o = some (.long r) ∧ P r m') G 0 0 mem pc lv st
abbrev XV (l : Launch) (M : MTy) (G : Gx) (P : Mem → Prop) (mem : Mem) (pc : Nat) (lv : Lv) (st : List Value) : Prop := Xm l M G 0 0 (fun o G' m' => G' = G ∧ o = none ∧ P m') G 0 0 mem pc lv st
theorem Ctg.mono {l : Launch} {M : MTy} {G : Gx} {mc ms : Nat} {As : List Value} {mem : Mem} {P P' : Option Value → Gx → Mem → Prop} (h : Ctg l M G mc ms As mem P) (hp : ∀ o G' m', P o G' m' → P' o G' m') : Ctg l M G mc ms As mem P' := by
  intro sz p e ha hc hk s m args below hf h1 h2 h3
  obtain ⟨k, o, g1, g2, g3, ⟨⟨⟨o1, G', m', e1, e2, e3⟩, e4⟩, e5⟩⟩ := h sz p e ha hc hk s m args below hf h1 h2 h3
  exact ⟨k, o, g1, g2, g3, ⟨⟨⟨o1, G', m', e1, hp _ _ _ e2, e3⟩, e4⟩, e5⟩⟩
/-- from the first instruction to the contract -/
theorem Ctg.of {l : Launch} {M : MTy} {G : Gx} {mc ms : Nat} {As : List Value} {mem : Mem} {P : Option Value → Gx → Mem → Prop} (hy : plainName M.1.cls = true) (hn : (lg_sl As).length ≤ M.2.2.1) {lv : Lv} (hlv : lv_args 0 As = lv)
    (k : Xm l M G mc ms P G 0 0 mem 0 lv []) : Ctg l M G mc ms As mem P := by
  intro sz
  refine Met.ofW (cc := M.2.1) (maxL := M.2.2.1) (ret := M.2.2.2.1) hy rfl ?_
  intro p e s m args below meth c s₁ B hml hv
  obtain ⟨rfl, hsz, hP, hK, hD0⟩ := hv
  have hts := atoms_spec (ws := wsM M) B.pre
  subst hsz
  have hC : Cx M (fun s => Fr G s.heap.size) (fun _ _ => True) G p s m As.toArray meth c :=
    ⟨B.exec, B.bytes, hml, findClass_of_methodNamed B.named, fun w h => hts w (List.mem_cons_of_mem _ h), B.returns, B.notSynchronized, (name_of_methodNamed B.named B.method).1, hK, fun q h => Or.inr h, trivial⟩
  have hl := lv_entry As (n := M.2.2.1) hn
  rw [hlv] at hl
  rw [lg_entry_eq]
  exact k p e s m As.toArray below meth c s.heap [] _ hC hP (hD0.weaken (fun k q hq _ => by obtain ⟨h1, rfl⟩ := wd_mem hq; exact Or.inl ⟨k, h1, rfl⟩)) va_S.rf hl
end
section
/-! a rule an instruction, over Xg -/
section XR
variable {l : Launch} {M : MTy} {A : State → Nat → Prop} {Z : List Frame → Array Value → State → State → Prop} {E : Array Value → State → Prop} {G : Gx} {cells slots : Nat} {mem : Mem} {pc : Nat} {lv lv' : Lv} {st : List Value}
theorem x_iconst {n : Int} {v : Int32} (hdg : decode M.2.1 pc = .ok (.iconst n, 1)) (hv : Int32.ofInt n = v) (kk : Xg l M A Z E G cells slots mem (pc + 1) lv (.int v :: st)) : Xg l M A Z E G cells slots mem pc lv st := by
  intro p e s m args below meth c H locs ls C hP hD hS hL
  exact lv_iconst C.1 C.2.1 hdg hv (kk p e s m args below meth c H locs _ C hP hD hS hL)
theorem x_bipush {n : Int} {v : Int32} (hdg : decode M.2.1 pc = .ok (.bipush n, 2)) (hv : (Int8.ofInt n).toInt32 = v) (kk : Xg l M A Z E G cells slots mem (pc + 2) lv (.int v :: st)) : Xg l M A Z E G cells slots mem pc lv st := by
  intro p e s m args below meth c H locs ls C hP hD hS hL
  exact lv_bipush C.1 C.2.1 hdg hv (kk p e s m args below meth c H locs _ C hP hD hS hL)
theorem x_sipush {n : Int} {v : Int32} (hdg : decode M.2.1 pc = .ok (.sipush n, 3)) (hv : (Int16.ofInt n).toInt32 = v) (kk : Xg l M A Z E G cells slots mem (pc + 3) lv (.int v :: st)) : Xg l M A Z E G cells slots mem pc lv st := by
  intro p e s m args below meth c H locs ls C hP hD hS hL
  exact lv_sipush C.1 C.2.1 hdg hv (kk p e s m args below meth c H locs _ C hP hD hS hL)
theorem x_lconst {n : Fin 2} {v : Int64} (hdg : decode M.2.1 pc = .ok (.lconst n, 1)) (hv : Int64.ofNat (n : Nat) = v) (kk : Xg l M A Z E G cells slots mem (pc + 1) lv (.long v :: st)) : Xg l M A Z E G cells slots mem pc lv st := by
  intro p e s m args below meth c H locs ls C hP hD hS hL
  exact lv_lconst C.1 C.2.1 hdg hv (kk p e s m args below meth c H locs _ C hP hD hS hL)
theorem x_ldc {index : Nat} {v : Int32} (hdg : decode M.2.1 pc = .ok (.ldc index, 2)) (hw : Cond.constant M.1.cls index v ∈ TB) (kk : Xg l M A Z E G cells slots mem (pc + 2) lv (.int v :: st)) : Xg l M A Z E G cells slots mem pc lv st := by
  intro p e s m args below meth c H locs ls C hP hD hS hL
  exact lv_ldc C.1 C.2.1 C.2.2.2.1 (C.2.2.2.2.1 _ hw) hdg (kk p e s m args below meth c H locs _ C hP hD hS hL)
theorem x_ldc2 {index : Nat} {v : Int64} (hdg : decode M.2.1 pc = .ok (.ldc2_w index, 3)) (hw : Cond.constantLong M.1.cls index v ∈ TB) (kk : Xg l M A Z E G cells slots mem (pc + 3) lv (.long v :: st)) : Xg l M A Z E G cells slots mem pc lv st := by
  intro p e s m args below meth c H locs ls C hP hD hS hL
  exact lv_ldc2 C.1 C.2.1 C.2.2.2.1 (C.2.2.2.2.1 _ hw) hdg (kk p e s m args below meth c H locs _ C hP hD hS hL)
theorem x_iload_n {k : Fin 4} {i : Nat} {x : Int32} (hdg : decode M.2.1 pc = .ok (.iload_n k, 1)) (q : Nat) (hl : lv[q]? = some (i, .int x)) (hi : (k : Nat) = i) (kk : Xg l M A Z E G cells slots mem (pc + 1) lv (.int x :: st)) : Xg l M A Z E G cells slots mem pc lv st := by
  intro p e s m args below meth c H locs ls C hP hD hS hL
  exact lv_iload_n C.1 C.2.1 hdg hi (lv_at hL q hl) (kk p e s m args below meth c H locs _ C hP hD hS hL)
theorem x_iload {i : Nat} {x : Int32} (hdg : decode M.2.1 pc = .ok (.iload i, 2)) (q : Nat) (hl : lv[q]? = some (i, .int x)) (kk : Xg l M A Z E G cells slots mem (pc + 2) lv (.int x :: st)) : Xg l M A Z E G cells slots mem pc lv st := by
  intro p e s m args below meth c H locs ls C hP hD hS hL
  exact lv_iload C.1 C.2.1 hdg (lv_at hL q hl) (kk p e s m args below meth c H locs _ C hP hD hS hL)
theorem x_lload_n {k : Fin 4} {i : Nat} {x : Int64} (hdg : decode M.2.1 pc = .ok (.lload_n k, 1)) (q : Nat) (hl : lv[q]? = some (i, .long x)) (hi : (k : Nat) = i) (kk : Xg l M A Z E G cells slots mem (pc + 1) lv (.long x :: st)) : Xg l M A Z E G cells slots mem pc lv st := by
  intro p e s m args below meth c H locs ls C hP hD hS hL
  exact lv_lload_n C.1 C.2.1 hdg hi (lv_at hL q hl) (kk p e s m args below meth c H locs _ C hP hD hS hL)
theorem x_lload {i : Nat} {x : Int64} (hdg : decode M.2.1 pc = .ok (.lload i, 2)) (q : Nat) (hl : lv[q]? = some (i, .long x)) (kk : Xg l M A Z E G cells slots mem (pc + 2) lv (.long x :: st)) : Xg l M A Z E G cells slots mem pc lv st := by
  intro p e s m args below meth c H locs ls C hP hD hS hL
  exact lv_lload C.1 C.2.1 hdg (lv_at hL q hl) (kk p e s m args below meth c H locs _ C hP hD hS hL)
theorem x_aload_n {k : Fin 4} {i : Nat} {x : Nat} (hdg : decode M.2.1 pc = .ok (.aload_n k, 1)) (q : Nat) (hl : lv[q]? = some (i, .ref x)) (hi : (k : Nat) = i) (kk : Xg l M A Z E G cells slots mem (pc + 1) lv (.ref x :: st)) : Xg l M A Z E G cells slots mem pc lv st := by
  intro p e s m args below meth c H locs ls C hP hD hS hL
  exact lv_aload_n C.1 C.2.1 hdg hi (lv_at hL q hl) (kk p e s m args below meth c H locs _ C hP hD hS hL)
theorem x_aload {i : Nat} {x : Nat} (hdg : decode M.2.1 pc = .ok (.aload i, 2)) (q : Nat) (hl : lv[q]? = some (i, .ref x)) (kk : Xg l M A Z E G cells slots mem (pc + 2) lv (.ref x :: st)) : Xg l M A Z E G cells slots mem pc lv st := by
  intro p e s m args below meth c H locs ls C hP hD hS hL
  exact lv_aload C.1 C.2.1 hdg (lv_at hL q hl) (kk p e s m args below meth c H locs _ C hP hD hS hL)
theorem x_istore_n {k : Fin 4} {i : Nat} {x : Int32} (hdg : decode M.2.1 pc = .ok (.istore_n k, 1)) (hi : (k : Nat) = i) (hn : i < M.2.2.1) (hl : (i, Value.int x) :: lv.filter (fun q => !(q.1 == i) && !(q.1 + 1 == i && q.2.category == 2)) = lv') (kk : Xg l M A Z E G cells slots mem (pc + 1) lv' st) : Xg l M A Z E G cells slots mem pc lv (.int x :: st) := by
  intro p e s m args below meth c H locs ls C hP hD hS hL
  exact lv_istore_n C.1 C.2.1 hdg hi hL hn hl (fun ls hL => kk p e s m args below meth c H locs _ C hP hD hS hL)
theorem x_istore {i : Nat} {x : Int32} (hdg : decode M.2.1 pc = .ok (.istore i, 2)) (hn : i < M.2.2.1) (hl : (i, Value.int x) :: lv.filter (fun q => !(q.1 == i) && !(q.1 + 1 == i && q.2.category == 2)) = lv') (kk : Xg l M A Z E G cells slots mem (pc + 2) lv' st) : Xg l M A Z E G cells slots mem pc lv (.int x :: st) := by
  intro p e s m args below meth c H locs ls C hP hD hS hL
  exact lv_istore C.1 C.2.1 hdg hL hn hl (fun ls hL => kk p e s m args below meth c H locs _ C hP hD hS hL)
theorem x_lstore_n {k : Fin 4} {i : Nat} {x : Int64} (hdg : decode M.2.1 pc = .ok (.lstore_n k, 1)) (hi : (k : Nat) = i) (hn : i + 1 < M.2.2.1) (hl : (i, Value.long x) :: lv.filter (fun q => !(q.1 == i) && (!(q.1 == i + 1) && !(q.1 + 1 == i && q.2.category == 2))) = lv') (kk : Xg l M A Z E G cells slots mem (pc + 1) lv' st) : Xg l M A Z E G cells slots mem pc lv (.long x :: st) := by
  intro p e s m args below meth c H locs ls C hP hD hS hL
  exact lv_lstore_n C.1 C.2.1 hdg hi hL hn hl (fun ls hL => kk p e s m args below meth c H locs _ C hP hD hS hL)
theorem x_lstore {i : Nat} {x : Int64} (hdg : decode M.2.1 pc = .ok (.lstore i, 2)) (hn : i + 1 < M.2.2.1) (hl : (i, Value.long x) :: lv.filter (fun q => !(q.1 == i) && (!(q.1 == i + 1) && !(q.1 + 1 == i && q.2.category == 2))) = lv') (kk : Xg l M A Z E G cells slots mem (pc + 2) lv' st) : Xg l M A Z E G cells slots mem pc lv (.long x :: st) := by
  intro p e s m args below meth c H locs ls C hP hD hS hL
  exact lv_lstore C.1 C.2.1 hdg hL hn hl (fun ls hL => kk p e s m args below meth c H locs _ C hP hD hS hL)
theorem x_astore_n {k : Fin 4} {i : Nat} {x : Nat} (hdg : decode M.2.1 pc = .ok (.astore_n k, 1)) (hi : (k : Nat) = i) (hn : i < M.2.2.1) (hl : (i, Value.ref x) :: lv.filter (fun q => !(q.1 == i) && !(q.1 + 1 == i && q.2.category == 2)) = lv') (kk : Xg l M A Z E G cells slots mem (pc + 1) lv' st) : Xg l M A Z E G cells slots mem pc lv (.ref x :: st) := by
  intro p e s m args below meth c H locs ls C hP hD hS hL
  exact lv_astore_n C.1 C.2.1 hdg hi hL hn hl (fun ls hL => kk p e s m args below meth c H locs _ C hP hD hS hL)
theorem x_astore {i : Nat} {x : Nat} (hdg : decode M.2.1 pc = .ok (.astore i, 2)) (hn : i < M.2.2.1) (hl : (i, Value.ref x) :: lv.filter (fun q => !(q.1 == i) && !(q.1 + 1 == i && q.2.category == 2)) = lv') (kk : Xg l M A Z E G cells slots mem (pc + 2) lv' st) : Xg l M A Z E G cells slots mem pc lv (.ref x :: st) := by
  intro p e s m args below meth c H locs ls C hP hD hS hL
  exact lv_astore C.1 C.2.1 hdg hL hn hl (fun ls hL => kk p e s m args below meth c H locs _ C hP hD hS hL)
theorem x_iinc {i k : Nat} {n : Int} {x v : Int32} (hdg : decode M.2.1 pc = .ok (.iinc i n, 3)) (hk : lv[k]? = some (i, .int x)) (hv : x + Int32.ofInt n = v) (hn : i < M.2.2.1) (hl : (i, Value.int v) :: lv.filter (fun q => !(q.1 == i) && !(q.1 + 1 == i && q.2.category == 2)) = lv') (kk : Xg l M A Z E G cells slots mem (pc + 3) lv' st) : Xg l M A Z E G cells slots mem pc lv st := by
  intro p e s m args below meth c H locs ls C hP hD hS hL
  exact lv_iinc C.1 C.2.1 hdg hL hk hv hn hl (fun ls hL => kk p e s m args below meth c H locs _ C hP hD hS hL)
theorem x_iadd {x y : Int32} (hdg : decode M.2.1 pc = .ok (.iadd, 1)) (kk : Xg l M A Z E G cells slots mem (pc + 1) lv (.int (x + y) :: st)) : Xg l M A Z E G cells slots mem pc lv (.int y :: .int x :: st) := by
  intro p e s m args below meth c H locs ls C hP hD hS hL
  exact lv_iadd C.1 C.2.1 hdg (kk p e s m args below meth c H locs _ C hP hD hS hL)
theorem x_isub {x y : Int32} (hdg : decode M.2.1 pc = .ok (.isub, 1)) (kk : Xg l M A Z E G cells slots mem (pc + 1) lv (.int (x - y) :: st)) : Xg l M A Z E G cells slots mem pc lv (.int y :: .int x :: st) := by
  intro p e s m args below meth c H locs ls C hP hD hS hL
  exact lv_isub C.1 C.2.1 hdg (kk p e s m args below meth c H locs _ C hP hD hS hL)
theorem x_imul {x y : Int32} (hdg : decode M.2.1 pc = .ok (.imul, 1)) (kk : Xg l M A Z E G cells slots mem (pc + 1) lv (.int (x * y) :: st)) : Xg l M A Z E G cells slots mem pc lv (.int y :: .int x :: st) := by
  intro p e s m args below meth c H locs ls C hP hD hS hL
  exact lv_imul C.1 C.2.1 hdg (kk p e s m args below meth c H locs _ C hP hD hS hL)
theorem x_iand {x y : Int32} (hdg : decode M.2.1 pc = .ok (.iand, 1)) (kk : Xg l M A Z E G cells slots mem (pc + 1) lv (.int (x &&& y) :: st)) : Xg l M A Z E G cells slots mem pc lv (.int y :: .int x :: st) := by
  intro p e s m args below meth c H locs ls C hP hD hS hL
  exact lv_iand C.1 C.2.1 hdg (kk p e s m args below meth c H locs _ C hP hD hS hL)
theorem x_idiv {x y : Int32} (hdg : decode M.2.1 pc = .ok (.idiv, 1)) (hne : ¬ y = 0) (kk : Xg l M A Z E G cells slots mem (pc + 1) lv (.int (x / y) :: st)) : Xg l M A Z E G cells slots mem pc lv (.int y :: .int x :: st) := by
  intro p e s m args below meth c H locs ls C hP hD hS hL
  exact lv_idiv C.1 C.2.1 hdg hne (kk p e s m args below meth c H locs _ C hP hD hS hL)
theorem x_irem {x y : Int32} (hdg : decode M.2.1 pc = .ok (.irem, 1)) (hne : ¬ y = 0) (kk : Xg l M A Z E G cells slots mem (pc + 1) lv (.int (x - x / y * y) :: st)) : Xg l M A Z E G cells slots mem pc lv (.int y :: .int x :: st) := by
  intro p e s m args below meth c H locs ls C hP hD hS hL
  exact lv_irem C.1 C.2.1 hdg hne (kk p e s m args below meth c H locs _ C hP hD hS hL)
theorem x_ladd {x y : Int64} (hdg : decode M.2.1 pc = .ok (.ladd, 1)) (kk : Xg l M A Z E G cells slots mem (pc + 1) lv (.long (x + y) :: st)) : Xg l M A Z E G cells slots mem pc lv (.long y :: .long x :: st) := by
  intro p e s m args below meth c H locs ls C hP hD hS hL
  exact lv_ladd C.1 C.2.1 hdg (kk p e s m args below meth c H locs _ C hP hD hS hL)
theorem x_lsub {x y : Int64} (hdg : decode M.2.1 pc = .ok (.lsub, 1)) (kk : Xg l M A Z E G cells slots mem (pc + 1) lv (.long (x - y) :: st)) : Xg l M A Z E G cells slots mem pc lv (.long y :: .long x :: st) := by
  intro p e s m args below meth c H locs ls C hP hD hS hL
  exact lv_lsub C.1 C.2.1 hdg (kk p e s m args below meth c H locs _ C hP hD hS hL)
theorem x_lmul {x y : Int64} (hdg : decode M.2.1 pc = .ok (.lmul, 1)) (kk : Xg l M A Z E G cells slots mem (pc + 1) lv (.long (x * y) :: st)) : Xg l M A Z E G cells slots mem pc lv (.long y :: .long x :: st) := by
  intro p e s m args below meth c H locs ls C hP hD hS hL
  exact lv_lmul C.1 C.2.1 hdg (kk p e s m args below meth c H locs _ C hP hD hS hL)
theorem x_land {x y : Int64} (hdg : decode M.2.1 pc = .ok (.land, 1)) (kk : Xg l M A Z E G cells slots mem (pc + 1) lv (.long (x &&& y) :: st)) : Xg l M A Z E G cells slots mem pc lv (.long y :: .long x :: st) := by
  intro p e s m args below meth c H locs ls C hP hD hS hL
  exact lv_land C.1 C.2.1 hdg (kk p e s m args below meth c H locs _ C hP hD hS hL)
theorem x_lor {x y : Int64} (hdg : decode M.2.1 pc = .ok (.lor, 1)) (kk : Xg l M A Z E G cells slots mem (pc + 1) lv (.long (x ||| y) :: st)) : Xg l M A Z E G cells slots mem pc lv (.long y :: .long x :: st) := by
  intro p e s m args below meth c H locs ls C hP hD hS hL
  exact lv_lor C.1 C.2.1 hdg (kk p e s m args below meth c H locs _ C hP hD hS hL)
theorem x_ldiv {x y : Int64} (hdg : decode M.2.1 pc = .ok (.ldiv, 1)) (hne : ¬ y = 0) (kk : Xg l M A Z E G cells slots mem (pc + 1) lv (.long (x / y) :: st)) : Xg l M A Z E G cells slots mem pc lv (.long y :: .long x :: st) := by
  intro p e s m args below meth c H locs ls C hP hD hS hL
  exact lv_ldiv C.1 C.2.1 hdg hne (kk p e s m args below meth c H locs _ C hP hD hS hL)
theorem x_lrem {x y : Int64} (hdg : decode M.2.1 pc = .ok (.lrem, 1)) (hne : ¬ y = 0) (kk : Xg l M A Z E G cells slots mem (pc + 1) lv (.long (x - x / y * y) :: st)) : Xg l M A Z E G cells slots mem pc lv (.long y :: .long x :: st) := by
  intro p e s m args below meth c H locs ls C hP hD hS hL
  exact lv_lrem C.1 C.2.1 hdg hne (kk p e s m args below meth c H locs _ C hP hD hS hL)
theorem x_lushr {x : Int64} {y : Int32} (hdg : decode M.2.1 pc = .ok (.lushr, 1)) (kk : Xg l M A Z E G cells slots mem (pc + 1) lv (.long ((x.toUInt64 >>> (y.toInt64.toUInt64 &&& Int64.toUInt64 63)).toInt64) :: st)) : Xg l M A Z E G cells slots mem pc lv (.int y :: .long x :: st) := by
  intro p e s m args below meth c H locs ls C hP hD hS hL
  exact lv_lushr C.1 C.2.1 hdg rfl (kk p e s m args below meth c H locs _ C hP hD hS hL)
theorem x_lshl {x : Int64} {y : Int32} (hdg : decode M.2.1 pc = .ok (.lshl, 1)) (kk : Xg l M A Z E G cells slots mem (pc + 1) lv (.long (x <<< (y.toInt64 &&& 63)) :: st)) : Xg l M A Z E G cells slots mem pc lv (.int y :: .long x :: st) := by
  intro p e s m args below meth c H locs ls C hP hD hS hL
  exact lv_lshl C.1 C.2.1 hdg rfl (kk p e s m args below meth c H locs _ C hP hD hS hL)
theorem x_i2l {x : Int32} (hdg : decode M.2.1 pc = .ok (.i2l, 1)) (kk : Xg l M A Z E G cells slots mem (pc + 1) lv (.long x.toInt64 :: st)) : Xg l M A Z E G cells slots mem pc lv (.int x :: st) := by
  intro p e s m args below meth c H locs ls C hP hD hS hL
  exact lv_i2l C.1 C.2.1 hdg rfl (kk p e s m args below meth c H locs _ C hP hD hS hL)
theorem x_l2i {x : Int64} (hdg : decode M.2.1 pc = .ok (.l2i, 1)) (kk : Xg l M A Z E G cells slots mem (pc + 1) lv (.int x.toInt32 :: st)) : Xg l M A Z E G cells slots mem pc lv (.long x :: st) := by
  intro p e s m args below meth c H locs ls C hP hD hS hL
  exact lv_l2i C.1 C.2.1 hdg rfl (kk p e s m args below meth c H locs _ C hP hD hS hL)
theorem x_lcmp {x y : Int64} (hdg : decode M.2.1 pc = .ok (.lcmp, 1)) (kk : Xg l M A Z E G cells slots mem (pc + 1) lv (.int (lg_cmp x y) :: st)) : Xg l M A Z E G cells slots mem pc lv (.long y :: .long x :: st) := by
  intro p e s m args below meth c H locs ls C hP hD hS hL
  exact W.lcmp C.1 C.2.1 hdg (kk p e s m args below meth c H locs _ C hP hD hS hL)
theorem x_dup {v : Value} (hdg : decode M.2.1 pc = .ok (.dup, 1)) (hv : v.category = 1) (kk : Xg l M A Z E G cells slots mem (pc + 1) lv (v :: v :: st)) : Xg l M A Z E G cells slots mem pc lv (v :: st) := by
  intro p e s m args below meth c H locs ls C hP hD hS hL
  exact lv_dup C.1 C.2.1 hdg hv (kk p e s m args below meth c H locs _ C hP hD hS hL)
theorem x_goto {off : Int} {tgt : Nat} (hdg : decode M.2.1 pc = .ok (.goto off, 3)) (ht : (pc : Int) + off = (tgt : Int)) (kk : Xg l M A Z E G cells slots mem tgt lv st) : Xg l M A Z E G cells slots mem pc lv st := by
  intro p e s m args below meth c H locs ls C hP hD hS hL
  exact lv_goto C.1 C.2.1 hdg ht (kk p e s m args below meth c H locs _ C hP hD hS hL)
theorem x_if_eq {x : Int32} {off : Int} {tgt : Nat} (hdg : decode M.2.1 pc = .ok (.ifCond .eq off, 3)) (ht : (pc : Int) + off = (tgt : Int)) (kt : x = 0 → Xg l M A Z E G cells slots mem tgt lv st) (kf : ¬ x = 0 → Xg l M A Z E G cells slots mem (pc + 3) lv st) : Xg l M A Z E G cells slots mem pc lv (.int x :: st) := by
  intro p e s m args below meth c H locs ls C hP hD hS hL
  exact lv_if_eq C.1 C.2.1 hdg ht (fun h => kt h p e s m args below meth c H locs _ C hP hD hS hL) (fun h => kf h p e s m args below meth c H locs _ C hP hD hS hL)
theorem x_icmp_eq {x y : Int32} {off : Int} {tgt : Nat} (hdg : decode M.2.1 pc = .ok (.if_icmp .eq off, 3)) (ht : (pc : Int) + off = (tgt : Int)) (kt : x = y → Xg l M A Z E G cells slots mem tgt lv st) (kf : ¬ x = y → Xg l M A Z E G cells slots mem (pc + 3) lv st) : Xg l M A Z E G cells slots mem pc lv (.int y :: .int x :: st) := by
  intro p e s m args below meth c H locs ls C hP hD hS hL
  exact lv_icmp_eq C.1 C.2.1 hdg ht (fun h => kt h p e s m args below meth c H locs _ C hP hD hS hL) (fun h => kf h p e s m args below meth c H locs _ C hP hD hS hL)
theorem x_if_ne {x : Int32} {off : Int} {tgt : Nat} (hdg : decode M.2.1 pc = .ok (.ifCond .ne off, 3)) (ht : (pc : Int) + off = (tgt : Int)) (kt : ¬ x = 0 → Xg l M A Z E G cells slots mem tgt lv st) (kf : x = 0 → Xg l M A Z E G cells slots mem (pc + 3) lv st) : Xg l M A Z E G cells slots mem pc lv (.int x :: st) := by
  intro p e s m args below meth c H locs ls C hP hD hS hL
  exact lv_if_ne C.1 C.2.1 hdg ht (fun h => kt h p e s m args below meth c H locs _ C hP hD hS hL) (fun h => kf h p e s m args below meth c H locs _ C hP hD hS hL)
theorem x_icmp_ne {x y : Int32} {off : Int} {tgt : Nat} (hdg : decode M.2.1 pc = .ok (.if_icmp .ne off, 3)) (ht : (pc : Int) + off = (tgt : Int)) (kt : ¬ x = y → Xg l M A Z E G cells slots mem tgt lv st) (kf : x = y → Xg l M A Z E G cells slots mem (pc + 3) lv st) : Xg l M A Z E G cells slots mem pc lv (.int y :: .int x :: st) := by
  intro p e s m args below meth c H locs ls C hP hD hS hL
  exact lv_icmp_ne C.1 C.2.1 hdg ht (fun h => kt h p e s m args below meth c H locs _ C hP hD hS hL) (fun h => kf h p e s m args below meth c H locs _ C hP hD hS hL)
theorem x_if_lt {x : Int32} {off : Int} {tgt : Nat} (hdg : decode M.2.1 pc = .ok (.ifCond .lt off, 3)) (ht : (pc : Int) + off = (tgt : Int)) (kt : x < 0 → Xg l M A Z E G cells slots mem tgt lv st) (kf : ¬ x < 0 → Xg l M A Z E G cells slots mem (pc + 3) lv st) : Xg l M A Z E G cells slots mem pc lv (.int x :: st) := by
  intro p e s m args below meth c H locs ls C hP hD hS hL
  exact lv_if_lt C.1 C.2.1 hdg ht (fun h => kt h p e s m args below meth c H locs _ C hP hD hS hL) (fun h => kf h p e s m args below meth c H locs _ C hP hD hS hL)
theorem x_icmp_lt {x y : Int32} {off : Int} {tgt : Nat} (hdg : decode M.2.1 pc = .ok (.if_icmp .lt off, 3)) (ht : (pc : Int) + off = (tgt : Int)) (kt : x < y → Xg l M A Z E G cells slots mem tgt lv st) (kf : ¬ x < y → Xg l M A Z E G cells slots mem (pc + 3) lv st) : Xg l M A Z E G cells slots mem pc lv (.int y :: .int x :: st) := by
  intro p e s m args below meth c H locs ls C hP hD hS hL
  exact lv_icmp_lt C.1 C.2.1 hdg ht (fun h => kt h p e s m args below meth c H locs _ C hP hD hS hL) (fun h => kf h p e s m args below meth c H locs _ C hP hD hS hL)
theorem x_if_ge {x : Int32} {off : Int} {tgt : Nat} (hdg : decode M.2.1 pc = .ok (.ifCond .ge off, 3)) (ht : (pc : Int) + off = (tgt : Int)) (kt : 0 ≤ x → Xg l M A Z E G cells slots mem tgt lv st) (kf : ¬ 0 ≤ x → Xg l M A Z E G cells slots mem (pc + 3) lv st) : Xg l M A Z E G cells slots mem pc lv (.int x :: st) := by
  intro p e s m args below meth c H locs ls C hP hD hS hL
  exact lv_if_ge C.1 C.2.1 hdg ht (fun h => kt h p e s m args below meth c H locs _ C hP hD hS hL) (fun h => kf h p e s m args below meth c H locs _ C hP hD hS hL)
theorem x_icmp_ge {x y : Int32} {off : Int} {tgt : Nat} (hdg : decode M.2.1 pc = .ok (.if_icmp .ge off, 3)) (ht : (pc : Int) + off = (tgt : Int)) (kt : y ≤ x → Xg l M A Z E G cells slots mem tgt lv st) (kf : ¬ y ≤ x → Xg l M A Z E G cells slots mem (pc + 3) lv st) : Xg l M A Z E G cells slots mem pc lv (.int y :: .int x :: st) := by
  intro p e s m args below meth c H locs ls C hP hD hS hL
  exact lv_icmp_ge C.1 C.2.1 hdg ht (fun h => kt h p e s m args below meth c H locs _ C hP hD hS hL) (fun h => kf h p e s m args below meth c H locs _ C hP hD hS hL)
theorem x_if_gt {x : Int32} {off : Int} {tgt : Nat} (hdg : decode M.2.1 pc = .ok (.ifCond .gt off, 3)) (ht : (pc : Int) + off = (tgt : Int)) (kt : 0 < x → Xg l M A Z E G cells slots mem tgt lv st) (kf : ¬ 0 < x → Xg l M A Z E G cells slots mem (pc + 3) lv st) : Xg l M A Z E G cells slots mem pc lv (.int x :: st) := by
  intro p e s m args below meth c H locs ls C hP hD hS hL
  exact lv_if_gt C.1 C.2.1 hdg ht (fun h => kt h p e s m args below meth c H locs _ C hP hD hS hL) (fun h => kf h p e s m args below meth c H locs _ C hP hD hS hL)
theorem x_icmp_gt {x y : Int32} {off : Int} {tgt : Nat} (hdg : decode M.2.1 pc = .ok (.if_icmp .gt off, 3)) (ht : (pc : Int) + off = (tgt : Int)) (kt : y < x → Xg l M A Z E G cells slots mem tgt lv st) (kf : ¬ y < x → Xg l M A Z E G cells slots mem (pc + 3) lv st) : Xg l M A Z E G cells slots mem pc lv (.int y :: .int x :: st) := by
  intro p e s m args below meth c H locs ls C hP hD hS hL
  exact lv_icmp_gt C.1 C.2.1 hdg ht (fun h => kt h p e s m args below meth c H locs _ C hP hD hS hL) (fun h => kf h p e s m args below meth c H locs _ C hP hD hS hL)
theorem x_if_le {x : Int32} {off : Int} {tgt : Nat} (hdg : decode M.2.1 pc = .ok (.ifCond .le off, 3)) (ht : (pc : Int) + off = (tgt : Int)) (kt : x ≤ 0 → Xg l M A Z E G cells slots mem tgt lv st) (kf : ¬ x ≤ 0 → Xg l M A Z E G cells slots mem (pc + 3) lv st) : Xg l M A Z E G cells slots mem pc lv (.int x :: st) := by
  intro p e s m args below meth c H locs ls C hP hD hS hL
  exact lv_if_le C.1 C.2.1 hdg ht (fun h => kt h p e s m args below meth c H locs _ C hP hD hS hL) (fun h => kf h p e s m args below meth c H locs _ C hP hD hS hL)
theorem x_icmp_le {x y : Int32} {off : Int} {tgt : Nat} (hdg : decode M.2.1 pc = .ok (.if_icmp .le off, 3)) (ht : (pc : Int) + off = (tgt : Int)) (kt : x ≤ y → Xg l M A Z E G cells slots mem tgt lv st) (kf : ¬ x ≤ y → Xg l M A Z E G cells slots mem (pc + 3) lv st) : Xg l M A Z E G cells slots mem pc lv (.int y :: .int x :: st) := by
  intro p e s m args below meth c H locs ls C hP hD hS hL
  exact lv_icmp_le C.1 C.2.1 hdg ht (fun h => kt h p e s m args below meth c H locs _ C hP hD hS hL) (fun h => kf h p e s m args below meth c H locs _ C hP hD hS hL)
theorem x_tableIn {dflt lo hi : Int} {offs : Array Int} {len : Nat} {x : Int32} {off : Int} {tgt : Nat} (hdg : decode M.2.1 pc = .ok (.tableswitch dflt lo hi offs, len)) (h1 : ¬ x.toInt < lo) (h2 : ¬ hi < x.toInt) (ho : offs[(x.toInt - lo).toNat]? = some off) (ht : (pc : Int) + off = (tgt : Int)) (kk : Xg l M A Z E G cells slots mem tgt lv st) : Xg l M A Z E G cells slots mem pc lv (.int x :: st) := by
  intro p e s m args below meth c H locs ls C hP hD hS hL
  exact lv_tableIn C.1 C.2.1 hdg h1 h2 ho ht (kk p e s m args below meth c H locs _ C hP hD hS hL)
theorem x_tableOut {dflt lo hi : Int} {offs : Array Int} {len : Nat} {x : Int32} {tgt : Nat} (hdg : decode M.2.1 pc = .ok (.tableswitch dflt lo hi offs, len)) (h : x.toInt < lo ∨ hi < x.toInt) (ht : (pc : Int) + dflt = (tgt : Int)) (kk : Xg l M A Z E G cells slots mem tgt lv st) : Xg l M A Z E G cells slots mem pc lv (.int x :: st) := by
  intro p e s m args below meth c H locs ls C hP hD hS hL
  exact lv_tableOut C.1 C.2.1 hdg h ht (kk p e s m args below meth c H locs _ C hP hD hS hL)
/-- fewer locals, in another order, by their places -/
theorem x_sub (ks : List Nat) (hl : lv_pick lv ks = lv') (kk : Xg l M A Z E G cells slots mem pc lv' st) : Xg l M A Z E G cells slots mem pc lv st := by
  intro p e s m args below meth c H locs ls C hP hD hS hL
  exact kk p e s m args below meth c H locs _ C hP hD hS (lv_sub hL ks hl)
/-- the same frame, written otherwise -/
theorem x_eq {pc2 : Nat} {st2 : List Value} (h : pc = pc2) (h2 : lv = lv') (h3 : st = st2) (kk : Xg l M A Z E G cells slots mem pc2 lv' st2) : Xg l M A Z E G cells slots mem pc lv st := by
  subst h; subst h2; subst h3; exact kk
theorem x_mem {mem2 : Mem} (h : mem = mem2) (kk : Xg l M A Z E G cells slots mem2 pc lv st) : Xg l M A Z E G cells slots mem pc lv st := by
  subst h; exact kk
theorem x_get {index ci N : Nat} {C0 ref : String} {T : u_T} (j k : Nat) {fs : List Value} {v : Value} (hdg : decode M.2.1 pc = .ok (.getfield index, 3)) (hj : j < gK G) (hc : cellR G j (mem j) = .inr (ci, fs)) (hcl : vwCl[ci]? = some (C0, T, N)) (hin : ∀ w ∈ u_ws C0 T N, w ∈ TB) (hk : k < N) (hw : Cond.fieldLink M.1.cls index ref (T k).2.1 (T k).2.2.1 ∈ TB) (hsame : (T k).1 = ref) (hv : fs[k]? = some v) (kk : Xg l M A Z E G cells slots mem (pc + 3) lv (v :: st)) : Xg l M A Z E G cells slots mem pc lv (.ref (gA G j) :: st) := by
  intro p e s m args below meth c H locs ls C hP hD hS hL
  exact va_get C.1 C.2.1 C.2.2.2.2.1 hin C.2.2.2.1 C.2.2.2.2.2.2.2.2.1 hP j (by rw [wd_at hj, ← hc]) hcl k hk (C.2.2.2.2.1 _ hw) (fun x h => by rw [hsame] at h; exact h) hv hdg (kk p e s m args below meth c H locs _ C hP hD hS hL)
/-- an int field is written -/
theorem x_put {index ci N : Nat} {C0 ref : String} {T : u_T} (j k : Nat) {fs : (Nat → Int32) → List Value} {v : Int32} (hdg : decode M.2.1 pc = .ok (.putfield index, 3)) (hj : j < gK G) (hc : ∀ r, cellR G j r = .inr (ci, fs r)) (hcl : vwCl[ci]? = some (C0, T, N)) (hin : ∀ w ∈ u_ws C0 T N, w ∈ TB) (ty0 : Nat → FieldType) (hty : ∀ k, k < N → parseFieldDescriptor (T k).2.2.1 = some (ty0 k)) (hnm : ∀ a, a < N → ∀ b, b < N → a ≠ b → (T a).2.1 ≠ (T b).2.1) (hk : k < N) (hw : Cond.fieldLink M.1.cls index ref (T k).2.1 (T k).2.2.1 ∈ TB) (hsame : (T k).1 = ref) (hfin : (T k).2.2.2 = false) (hd : parseFieldDescriptor (T k).2.2.1 = some .int) (hl : k < (fs (mem j)).length) (hset : (fs (mem j)).set k (.int v) = fs (upd (mem j) k v)) (kk : Xg l M A Z E G cells slots (wr mem j k v) (pc + 3) lv st) : Xg l M A Z E G cells slots mem pc lv (.int v :: .ref (gA G j) :: st) := by
  intro p e s m args below meth c H locs ls C hP hD hS hL
  have hset' : (wd (gK G) (gA G) (cellOf G mem)).set j (gA G j, .inr (ci, (fs (mem j)).set k (.int v))) = wd (gK G) (gA G) (cellOf G (wr mem j k v)) :=
    wd_set hj (by show cellR G j (wr mem j k v j) = _; rw [hc, hset]; simp [wr, wrA]) (fun i hi => by show cellR G i (wr mem j k v i) = _; simp [wr, wrA, hi])
  exact va_put C.1 C.2.1 C.2.2.2.2.1 hin ty0 hty hnm C.2.2.2.1 C.2.2.2.2.2.2.2.2.1 hP hD hS j (by rw [wd_at hj]; exact congrArg (fun z => some (gA G j, z)) (hc _)) hcl k hk (C.2.2.2.2.1 _ hw) (fun x h => by rw [hsame] at h; exact h) hfin hd rfl rfl hl hdg (fun H1 locs1 hP1 hD1 hS1 => kk p e s m args below meth c H1 locs1 _ C (by rw [← hset']; exact hP1) (by rw [← hset']; exact hD1) hS1 hL)
theorem x_iald {n : Nat} {i : Int32} (j : Nat) (hdg : decode M.2.1 pc = .ok (.iaload, 1)) (hj : j < gK G) (hc : cellR G j (mem j) = rI (gC G) n (mem j)) (hin : vp_in i n) (kk : Xg l M A Z E G cells slots mem (pc + 1) lv (.int (mem j i.toNatClampNeg) :: st)) : Xg l M A Z E G cells slots mem pc lv (.int i :: .ref (gA G j) :: st) := by
  intro p e s m args below meth c H locs ls C hP hD hS hL
  exact va_iald C.1 C.2.1 C.2.2.2.2.2.2.2.2.1 hP j 0 (cA := (gC G).1) (n := n) (f := mem j) (by rw [wd_at hj]; exact congrArg (fun z => some (gA G j, z)) hc) rfl hin hdg (kk p e s m args below meth c H locs _ C hP hD hS hL)
theorem x_zald {n : Nat} {i : Int32} (j : Nat) (hdg : decode M.2.1 pc = .ok (.baload, 1)) (hj : j < gK G) (hc : cellR G j (mem j) = rZ (gC G) n (mem j)) (hin : vp_in i n) (kk : Xg l M A Z E G cells slots mem (pc + 1) lv (.int (mem j i.toNatClampNeg) :: st)) : Xg l M A Z E G cells slots mem pc lv (.int i :: .ref (gA G j) :: st) := by
  intro p e s m args below meth c H locs ls C hP hD hS hL
  exact va_zald C.1 C.2.1 C.2.2.2.2.2.2.2.2.1 hP j 1 (cA := (gC G).2.1) (n := n) (f := mem j) (by rw [wd_at hj]; exact congrArg (fun z => some (gA G j, z)) hc) rfl hin hdg (kk p e s m args below meth c H locs _ C hP hD hS hL)
theorem x_iast {n : Nat} {i v : Int32} (j : Nat) (hdg : decode M.2.1 pc = .ok (.iastore, 1)) (hj : j < gK G) (hc : ∀ r, cellR G j r = rI (gC G) n r) (hin : vp_in i n) (kk : Xg l M A Z E G cells slots (wr mem j i.toNatClampNeg v) (pc + 1) lv st) : Xg l M A Z E G cells slots mem pc lv (.int v :: .int i :: .ref (gA G j) :: st) := by
  intro p e s m args below meth c H locs ls C hP hD hS hL
  have hset' : (wd (gK G) (gA G) (cellOf G mem)).set j (gA G j, .inl ((gC G).1, n, .inl (upd (mem j) i.toNatClampNeg v))) = wd (gK G) (gA G) (cellOf G (wr mem j i.toNatClampNeg v)) :=
    wd_set hj (by show cellR G j (wr mem j _ v j) = _; rw [hc]; simp [wr, wrA, rI]) (fun q hq => by show cellR G q (wr mem j _ v q) = _; simp [wr, wrA, hq])
  exact va_iast C.1 C.2.1 C.2.2.2.2.2.2.2.2.1 hP hD hS j 0 (cA := (gC G).1) (n := n) (f := mem j) (by rw [wd_at hj]; exact congrArg (fun z => some (gA G j, z)) (hc _)) rfl hin hdg (fun H1 locs1 hP1 hD1 hS1 => kk p e s m args below meth c H1 locs1 _ C (by rw [← hset']; exact hP1) (by rw [← hset']; exact hD1) hS1 hL)
theorem x_zast {n : Nat} {i v : Int32} (j : Nat) (hdg : decode M.2.1 pc = .ok (.bastore, 1)) (hj : j < gK G) (hc : ∀ r, cellR G j r = rZ (gC G) n r) (hin : vp_in i n) (hv : v = 0 ∨ v = 1) (kk : Xg l M A Z E G cells slots (wr mem j i.toNatClampNeg v) (pc + 1) lv st) : Xg l M A Z E G cells slots mem pc lv (.int v :: .int i :: .ref (gA G j) :: st) := by
  intro p e s m args below meth c H locs ls C hP hD hS hL
  have hn : vp_nar .boolean v = v := by rcases hv with rfl | rfl <;> rfl
  have hset' : (wd (gK G) (gA G) (cellOf G mem)).set j (gA G j, .inl ((gC G).2.1, n, .inl (upd (mem j) i.toNatClampNeg v))) = wd (gK G) (gA G) (cellOf G (wr mem j i.toNatClampNeg v)) :=
    wd_set hj (by show cellR G j (wr mem j _ v j) = _; rw [hc]; simp [wr, wrA, rZ]) (fun q hq => by show cellR G q (wr mem j _ v q) = _; simp [wr, wrA, hq])
  exact va_zast C.1 C.2.1 C.2.2.2.2.2.2.2.2.1 hP hD hS j 1 (cA := (gC G).2.1) (n := n) (f := mem j) (by rw [wd_at hj]; exact congrArg (fun z => some (gA G j, z)) (hc _)) rfl hin hdg (fun H1 locs1 hP1 hD1 hS1 => kk p e s m args below meth c H1 locs1 _ C (by rw [← hset', ← hn]; exact hP1) (by rw [← hset', ← hn]; exact hD1) hS1 hL)
theorem x_aaldR {n : Nat} {i : Int32} {f : Nat → Option Nat} {v : Nat} (j : Nat) (hdg : decode M.2.1 pc = .ok (.aaload, 1)) (hj : j < gK G) (hc : cellR G j (mem j) = rR (gC G) n f) (hin : vp_in i n) (hv : f i.toNatClampNeg = some v) (kk : Xg l M A Z E G cells slots mem (pc + 1) lv (.ref v :: st)) : Xg l M A Z E G cells slots mem pc lv (.int i :: .ref (gA G j) :: st) := by
  intro p e s m args below meth c H locs ls C hP hD hS hL
  have hlt : i.toNatClampNeg < n := Nat.not_le.mp fun q => hin (Or.inr q)
  have hcell := hP j _ (wd_at hj)
  rw [show cellOf G mem j = rR (gC G) n f from hc] at hcell
  refine W.aald (v := .ref v) (ty := .array .int) C.1 C.2.1 hcell ((C.2.2.2.2.2.2.2.2.1.2 3 _ rfl).1 n (fun j => va_rf (f j))) rfl (fun q => by cases q) (by show ¬ (i < 0 ∨ (arrV _ _ _).slots.size ≤ _); rw [arrV_size]; exact hin) (by show (arrV _ _ _).slots[_]? = _; rw [arrV_read _ _ hlt, hv]; rfl) rfl rfl hdg (kk p e s m args below meth c H locs _ C hP hD hS hL)
theorem x_aaldF {n : Nat} {i : Int32} {f : Nat → Option Nat} {v : Nat} (j : Nat) (hdg : decode M.2.1 pc = .ok (.aaload, 1)) (hj : j < gK G) (hc : cellR G j (mem j) = rF (gC G) n f) (hin : vp_in i n) (hv : f i.toNatClampNeg = some v) (kk : Xg l M A Z E G cells slots mem (pc + 1) lv (.ref v :: st)) : Xg l M A Z E G cells slots mem pc lv (.int i :: .ref (gA G j) :: st) := by
  intro p e s m args below meth c H locs ls C hP hD hS hL
  have hlt : i.toNatClampNeg < n := Nat.not_le.mp fun q => hin (Or.inr q)
  have hcell := hP j _ (wd_at hj)
  rw [show cellOf G mem j = rF (gC G) n f from hc] at hcell
  refine W.aald (v := .ref v) (ty := .object RX1) C.1 C.2.1 hcell ((C.2.2.2.2.2.2.2.2.1.2 2 _ rfl).1 n (fun j => va_rf (f j))) rfl (fun q => by cases q) (by show ¬ (i < 0 ∨ (arrV _ _ _).slots.size ≤ _); rw [arrV_size]; exact hin) (by show (arrV _ _ _).slots[_]? = _; rw [arrV_read _ _ hlt, hv]; rfl) rfl rfl hdg (kk p e s m args below meth c H locs _ C hP hD hS hL)
theorem x_alen {n : Nat} {v : Int32} (j : Nat) (hdg : decode M.2.1 pc = .ok (.arraylength, 1)) (hj : j < gK G) (hc : cellR G j (mem j) = rI (gC G) n (mem j)) (hv : Int32.ofNat n = v) (kk : Xg l M A Z E G cells slots mem (pc + 1) lv (.int v :: st)) : Xg l M A Z E G cells slots mem pc lv (.ref (gA G j) :: st) := by
  intro p e s m args below meth c H locs ls C hP hD hS hL
  exact va_alen C.1 C.2.1 C.2.2.2.2.2.2.2.2.1 hP j 0 (cA := (gC G).1) (x := (n, .inl (mem j))) (by rw [wd_at hj]; exact congrArg (fun z => some (gA G j, z)) hc) rfl hv hdg (kk p e s m args below meth c H locs _ C hP hD hS hL)
theorem x_mmax {index : Nat} {x y : Int32} (hdg : decode M.2.1 pc = .ok (.invokestatic index, 3)) (hw : Cond.methodLink M.1.cls index Lib.Math.max.name ∈ TB) (h2 : Cond.static Lib.Math.max.name ∈ TB) (h3 : Cond.initialized "java/lang/Math" ∈ TB) (h4 : Cond.code Lib.Math.max.name Lib.Math.max.code 2 (some .int) ∈ TB) (hR : 1 ≤ M.2.2.2.2.frames ∧ (st.map fun v => v.category).sum + 13 ≤ M.2.2.2.2.locals ∧ cells ≤ M.2.2.2.2.cells ∧ slots ≤ M.2.2.2.2.slots) (kk : Xg l M A Z E G cells slots mem (pc + 3) lv (.int (if x < y then y else x) :: st)) : Xg l M A Z E G cells slots mem pc lv (.int y :: .int x :: st) := by
  intro p e s m args below meth c H locs ls C hP hD hS hL
  exact va_mmax C.1 C.2.1 (C.2.2.1.trans hL.1.symm) C.2.2.2.1 (C.2.2.2.2.1 _ hw) (C.2.2.2.2.1 _ h2) (C.2.2.2.2.1 _ h3) (C.2.2.2.2.1 _ h4) hR.1 hR.2.1 hR.2.2.1 hR.2.2.2 hdg (kk p e s m args below meth c H locs _ C hP hD hS hL)
theorem x_mmin {index : Nat} {x y : Int32} (hdg : decode M.2.1 pc = .ok (.invokestatic index, 3)) (hw : Cond.methodLink M.1.cls index Lib.Math.min.name ∈ TB) (h2 : Cond.static Lib.Math.min.name ∈ TB) (h3 : Cond.initialized "java/lang/Math" ∈ TB) (h4 : Cond.code Lib.Math.min.name Lib.Math.min.code 2 (some .int) ∈ TB) (hR : 1 ≤ M.2.2.2.2.frames ∧ (st.map fun v => v.category).sum + 13 ≤ M.2.2.2.2.locals ∧ cells ≤ M.2.2.2.2.cells ∧ slots ≤ M.2.2.2.2.slots) (kk : Xg l M A Z E G cells slots mem (pc + 3) lv (.int (if y < x then y else x) :: st)) : Xg l M A Z E G cells slots mem pc lv (.int y :: .int x :: st) := by
  intro p e s m args below meth c H locs ls C hP hD hS hL
  exact va_mmin C.1 C.2.1 (C.2.2.1.trans hL.1.symm) C.2.2.2.1 (C.2.2.2.2.1 _ hw) (C.2.2.2.2.1 _ h2) (C.2.2.2.2.1 _ h3) (C.2.2.2.2.1 _ h4) hR.1 hR.2.1 hR.2.2.1 hR.2.2.2 hdg (kk p e s m args below meth c H locs _ C hP hD hS hL)
theorem x_copy {index : Nat} {n0 n1 : Nat} {sp dp n : Int32} (j0 j1 : Nat) (hdg : decode M.2.1 pc = .ok (.invokestatic index, 3)) (hw : Cond.methodLink M.1.cls index arraycopyName ∈ TB) (h2 : Cond.native arraycopyName ∈ TB) (h3 : Cond.static arraycopyName ∈ TB) (h4 : Cond.initialized "java/lang/System" ∈ TB) (hj0 : j0 < gK G) (hj1 : j1 < gK G) (hc0 : cellR G j0 (mem j0) = rI (gC G) n0 (mem j0)) (hc1 : ∀ r, cellR G j1 r = rI (gC G) n1 r) (hb : ¬ sp < 0 ∧ ¬ dp < 0 ∧ ¬ n < 0 ∧ sp.toNatClampNeg + n.toNatClampNeg ≤ n0 ∧ dp.toNatClampNeg + n.toNatClampNeg ≤ n1) (hR : 1 ≤ M.2.2.2.2.frames ∧ (st.map fun v => v.category).sum + (nativeFrameWords "java/lang/System" "arraycopy" 5 + 11) ≤ M.2.2.2.2.locals) (kk : Xg l M A Z E G cells slots (wrA mem j1 (va_cpy (mem j0) (mem j1) sp.toNatClampNeg dp.toNatClampNeg n.toNatClampNeg)) (pc + 3) lv st) : Xg l M A Z E G cells slots mem pc lv (.int n :: .int dp :: .ref (gA G j1) :: .int sp :: .ref (gA G j0) :: st) := by
  intro p e s m args below meth c H locs ls C hP hD hS hL
  have hset' : (wd (gK G) (gA G) (cellOf G mem)).set j1 (gA G j1, .inl ((gC G).1, n1, .inl (va_cpy (mem j0) (mem j1) sp.toNatClampNeg dp.toNatClampNeg n.toNatClampNeg))) = wd (gK G) (gA G) (cellOf G (wrA mem j1 (va_cpy (mem j0) (mem j1) sp.toNatClampNeg dp.toNatClampNeg n.toNatClampNeg))) :=
    wd_set hj1 (by show cellR G j1 (wrA mem j1 _ j1) = _; rw [hc1]; simp [wrA, rI]) (fun q hq => by show cellR G q (wrA mem j1 _ q) = _; simp [wrA, hq])
  exact va_copyi C.1 C.2.1 (C.2.2.1.trans hL.1.symm) C.2.2.2.1 (C.2.2.2.2.1 _ hw) (C.2.2.2.2.1 _ h2) (C.2.2.2.2.1 _ h3) (C.2.2.2.2.1 _ h4) C.2.2.2.2.2.2.2.2.1 hP hD hS j0 j1 0 0 (c0 := (gC G).1) (c1 := (gC G).1) (n0 := n0) (n1 := n1) (f := mem j0) (g := mem j1) (ty := .int) (by rw [wd_at hj0]; exact congrArg (fun z => some (gA G j0, z)) hc0) (by rw [wd_at hj1]; exact congrArg (fun z => some (gA G j1, z)) (hc1 _)) rfl rfl rfl hb.1 hb.2.1 hb.2.2.1 hb.2.2.2.1 hb.2.2.2.2 (fun i _ => rfl) hR.1 hR.2 hdg (fun H1 locs1 hP1 hD1 hS1 => kk p e s m args below meth c H1 locs1 _ C (by rw [← hset']; exact hP1) (by rw [← hset']; exact hD1) hS1 hL)
end XR
end
section
/-! calls and returns -/
theorem Fr_sub {G : Gx} {A : Nat → Prop} {ct : Nat → va_E} {H0 H : Heap} {locs : List Loc} (hD : va_D A (wd (gK G) (gA G) ct)) (hS : va_S A H0 H locs) (hA : ∀ q, H0.size ≤ q → A q) : ∀ q, Fr G H.size q → A q := by
  intro q h
  rcases h with ⟨i, hi, rfl⟩ | h
  · exact hD.2 i _ (wd_at hi)
  · exact hA q (Nat.le_trans hS.1 h)
theorem Pm_blind {G : Gx} {mem : Mem} {sz : Nat} {As : List Value} : FrameBlind (va_Pc As (Pm G mem sz)) := by
  intro a U g mk q
  obtain ⟨q0, q1, qP, qK, qD⟩ := q
  exact ⟨q0, q1, qP, va_K.moved (u := U) (U := U.calling g mk a) (Vm.Alike.refl U.vm) qK, qD⟩
theorem gI_TB {Mc : MTy} (w5 : Cond.code Mc.1 Mc.2.1 Mc.2.2.1 Mc.2.2.2.1 ∈ TB) : GoodIn TB (wsM Mc) := by
  intro w h
  rcases List.mem_cons.mp h with rfl | h
  · exact ⟨w5, TB_good w5⟩
  · exact ⟨h, TB_good h⟩
/-- what the tables say of a method that is called on an object -/
def OkV (Mc : MTy) (C0 : String) (n : Nat) : Prop :=
  Cond.instanceMethod Mc.1 ∈ TB ∧ Cond.selects C0 Mc.1 Mc.1 ∈ TB ∧ Cond.initialized C0 ∈ TB ∧ Cond.code Mc.1 Mc.2.1 Mc.2.2.1 Mc.2.2.2.1 ∈ TB ∧ Mc.1.cls = C0 ∧ Mc.1.cls ≠ "java/lang/invoke/MethodHandle" ∧ Mc.1.cls ≠ "java/lang/invoke/VarHandle" ∧ (parseMethodDescriptor Mc.1.desc).map (fun d => d.parameters.length) = some n
def OkS (Mc : MTy) (n : Nat) : Prop :=
  Cond.static Mc.1 ∈ TB ∧ Cond.initialized Mc.1.cls ∈ TB ∧ Cond.code Mc.1 Mc.2.1 Mc.2.2.1 Mc.2.2.2.1 ∈ TB ∧ Mc.1.cls ≠ "java/lang/invoke/MethodHandle" ∧ Mc.1.cls ≠ "java/lang/invoke/VarHandle" ∧ (parseMethodDescriptor Mc.1.desc).map (fun d => d.parameters.length) = some n
def OkI (Mc : MTy) (n : Nat) : Prop :=
  Cond.instanceMethod Mc.1 ∈ TB ∧ Cond.initialized Mc.1.cls ∈ TB ∧ Cond.code Mc.1 Mc.2.1 Mc.2.2.1 none ∈ TB ∧ Mc.2.2.2.1 = none ∧ Mc.1.name = "<init>" ∧ Mc.1.cls ≠ "java/lang/invoke/MethodHandle" ∧ Mc.1.cls ≠ "java/lang/invoke/VarHandle" ∧ (parseMethodDescriptor Mc.1.desc).map (fun d => d.parameters.length) = some n
/-- the callee's room fits the caller's -/
def RmOk (Mc M : MTy) (mc ms cells slots : Nat) : Prop :=
  (Mc.2.2.2.2.cells = mc ∧ Mc.2.2.2.2.slots = ms) ∧ (Mc.2.2.2.2.frames + 1 ≤ M.2.2.2.2.frames ∧ 8 + (Mc.2.2.1 + 11) + Mc.2.2.2.2.locals ≤ M.2.2.2.2.locals) ∧ cells + mc ≤ M.2.2.2.2.cells ∧ slots + ms ≤ M.2.2.2.2.slots
section XC
variable {l : Launch} {M : MTy} {A : State → Nat → Prop} {Z : List Frame → Array Value → State → State → Prop} {E : Array Value → State → Prop} {G : Gx} {cells slots : Nat} {mem : Mem} {pc : Nat} {lv : Lv} {st : List Value}
theorem x_run {p : Program} {e : Env} {R : Room} {s : State} {m : MethodId} {args : Array Value} {below : List Frame} {meth : Method} {c : Code} {H : Heap} {locs : List Loc} {Q : State → Prop} {ls : Array Slot} {rest st0 : List Value} {a : Array Value} {A0 : Nat → Prop} {H0 : Heap} {mc ms : Nat} {P : Option Value → Gx → Mem → Prop} {ct : Nat → va_E}
    (hr : va_Run p l e R s m args below meth c H locs cells slots mc ms (F0 m pc ls st0) rest (Qm G P H.size a) (Fr G H.size)) (hD : va_D A0 (wd (gK G) (gA G) ct)) (hS : va_S A0 H0 H locs) (hA : ∀ q, H0.size ≤ q → A0 q)
    (kk : ∀ (o : Option Value) (G' : Gx) (mem' : Mem) (H1 : Heap) (locs1 : List Loc), P o G' mem' → gD G' = gD G → gC G' = gC G → va_P (gD G) vwCl (wd (gK G') (gA G') (cellOf G' mem')) H1 → va_D A0 (wd (gK G') (gA G') (cellOf G' mem')) → va_S A0 H0 H1 locs1 → W p l e R s m args below meth c H1 locs1 (cells + mc) (slots + ms) Q (F0 m (pc + 3) ls (o.toList ++ rest))) : W p l e R s m args below meth c H locs cells slots Q (F0 m pc ls st0) := by
  have hF := Fr_sub hD hS hA
  intro T hT X
  obtain ⟨v, st₀, t, T', L, h0, X', hL, e1, e2, ⟨⟨o, G', mem', hv, hp, hd1, hd2, hP1, hD1⟩, hz, hk⟩, st⟩ := hr T hT X
  cases hv
  rw [h0] at hz hk
  obtain ⟨t2, a1, b1⟩ := kk v G' mem' T'.heap (locs ++ L) hp hd1 hd2 (by rw [e1]; exact hP1) (hD1.weaken (fun _ q _ h => hF q.1 h))
    ⟨Nat.le_trans hS.1 (by rw [e1]; exact hz), fun q h1 h2 => by rw [e1, hk q (Nat.lt_of_lt_of_le h1 hS.1) (fun z => h2 (hF q z))]; exact hS.2.1 q h1 h2, fun q hq => by
      rcases List.mem_append.mp hq with h | h
      · exact hS.2.2 q h
      · exact hF _ (hL q h)⟩ T' rfl X'
  exact ⟨t2, st t2 a1, b1⟩
theorem x_callV {Mc : MTy} {mc ms index ci n N : Nat} {As rest fs : List Value} {C0 : String} {T : u_T} {P : Option Value → Gx → Mem → Prop} (j : Nat) (hct : Ctg l Mc G mc ms (.ref (gA G j) :: As) mem P) (hok : OkV Mc C0 n) (hdg : decode M.2.1 pc = .ok (.invokevirtual index, 3)) (w1 : Cond.methodLink M.1.cls index Mc.1 ∈ TB) (hrm : RmOk Mc M mc ms cells slots)
    (hj : j < gK G) (hc : cellR G j (mem j) = .inr (ci, fs)) (hcl : vwCl[ci]? = some (C0, T, N)) (hn : As.length = n) (hst : st = As.reverse ++ .ref (gA G j) :: rest) (hcat : (rest.map fun v => v.category).sum ≤ 8)
    (kk : ∀ (o : Option Value) (G' : Gx) (mem' : Mem), P o G' mem' → gD G' = gD G → gC G' = gC G → Xg l M A Z E G' (cells + mc) (slots + ms) mem' (pc + 3) lv (o.toList ++ rest)) : Xg l M A Z E G cells slots mem pc lv st := by
  intro p e s m args below meth c H locs ls C hP hD hS hL
  obtain ⟨w2, w3, w4, w5, hy⟩ := hok
  have hT : GoodIn TB (wsV M.1.cls index C0 Mc.1 (wsM Mc)) := by
    intro w h
    rcases List.mem_append.mp h with h | h
    · have : w = Cond.methodLink M.1.cls index Mc.1 ∨ w = Cond.instanceMethod Mc.1 ∨ w = Cond.selects C0 Mc.1 Mc.1 ∨ w = Cond.initialized C0 := by simpa using h
      rcases this with rfl | rfl | rfl | rfl
      · exact ⟨w1, TB_good w1⟩
      · exact ⟨w2, TB_good w2⟩
      · exact ⟨w3, TB_good w3⟩
      · exact ⟨w4, TB_good w4⟩
    · exact gI_TB w5 w h
  have hrun := va_runV (p := p) (e := e) (R := M.2.2.2.2) (below := below) (meth := meth) (H := H) (locs := locs) (cells := cells) (slots := slots) (g := F0 m pc ls st) (b := gA G j) (As := As) (rest := rest) (S := ⟨C.1, C.2.1, C.2.2.1, C.2.2.2.1, C.2.2.2.2.1⟩) (hM := hct H.size) (cw := cwV n C.2.2.2.2.1 hT rfl hrm.1.1 hrm.1.2 hy hrm.2.1)
    ⟨Pm_blind, va_recv C.2.2.2.2.2.2.2.2.1 hP (ci := ci) (q0 := j) hcl (by rw [wd_at hj]; exact congrArg (fun z => some (gA G j, z)) hc), fun U hU hW => ⟨rfl, by rw [hU], by rw [hU]; exact hP, va_K.moved hW.alike C.2.2.2.2.2.2.2.2.1, hD.weaken (fun _ _ _ _ => trivial)⟩⟩ rfl hn hL.1 hst (lv_room hcat) hdg hrm.2.2
  exact x_run hrun hD hS C.2.2.2.2.2.2.2.2.2.1 (fun o G' mem' H1 locs1 hp hd1 hd2 hP1 hD1 hS1 => kk o G' mem' hp hd1 hd2 p e s m args below meth c H1 locs1 ls (by unfold Cx at C ⊢; rw [hd1, hd2]; exact C) (by rw [hd1]; exact hP1) hD1 hS1 hL)
theorem x_callS {Mc : MTy} {mc ms index n : Nat} {As rest : List Value} {P : Option Value → Gx → Mem → Prop} (hct : Ctg l Mc G mc ms As mem P) (hok : OkS Mc n) (hdg : decode M.2.1 pc = .ok (.invokestatic index, 3)) (w1 : Cond.methodLink M.1.cls index Mc.1 ∈ TB) (hrm : RmOk Mc M mc ms cells slots)
    (hn : As.length = n) (hst : st = As.reverse ++ rest) (hcat : (rest.map fun v => v.category).sum ≤ 8)
    (kk : ∀ (o : Option Value) (G' : Gx) (mem' : Mem), P o G' mem' → gD G' = gD G → gC G' = gC G → Xg l M A Z E G' (cells + mc) (slots + ms) mem' (pc + 3) lv (o.toList ++ rest)) : Xg l M A Z E G cells slots mem pc lv st := by
  intro p e s m args below meth c H locs ls C hP hD hS hL
  obtain ⟨w2, w4, w5, hy⟩ := hok
  have hrun := va_runS (p := p) (e := e) (R := M.2.2.2.2) (below := below) (meth := meth) (H := H) (locs := locs) (cells := cells) (slots := slots) (g := F0 m pc ls st) (As := As) (rest := rest) (S := ⟨C.1, C.2.1, C.2.2.1, C.2.2.2.1, C.2.2.2.2.1⟩) (hM := hct H.size) (cw := ⟨callB_of n C.2.2.2.2.1 (gI_TB w5) rfl hrm.1.1 hrm.1.2 (C.2.2.2.2.1 _ w4) (C.2.2.2.2.1 _ w1) hy hrm.2.1, C.2.2.2.2.1 _ w2⟩)
    ⟨Pm_blind, fun U hU hW => ⟨rfl, by rw [hU], by rw [hU]; exact hP, va_K.moved hW.alike C.2.2.2.2.2.2.2.2.1, hD.weaken (fun _ _ _ _ => trivial)⟩⟩ rfl hn hL.1 hst (lv_room hcat) hdg hrm.2.2
  exact x_run hrun hD hS C.2.2.2.2.2.2.2.2.2.1 (fun o G' mem' H1 locs1 hp hd1 hd2 hP1 hD1 hS1 => kk o G' mem' hp hd1 hd2 p e s m args below meth c H1 locs1 ls (by unfold Cx at C ⊢; rw [hd1, hd2]; exact C) (by rw [hd1]; exact hP1) hD1 hS1 hL)
theorem x_callI {Mc : MTy} {mc ms index n : Nat} {As rest : List Value} {P : Option Value → Gx → Mem → Prop} (j : Nat) (hct : Ctg l Mc G mc ms (.ref (gA G j) :: As) mem P) (hok : OkI Mc n) (hdg : decode M.2.1 pc = .ok (.invokespecial index, 3)) (w1 : Cond.methodLink M.1.cls index Mc.1 ∈ TB) (hrm : RmOk Mc M mc ms cells slots)
    (hn : As.length = n) (hst : st = As.reverse ++ .ref (gA G j) :: rest) (hcat : (rest.map fun v => v.category).sum ≤ 8)
    (kk : ∀ (o : Option Value) (G' : Gx) (mem' : Mem), P o G' mem' → gD G' = gD G → gC G' = gC G → Xg l M A Z E G' (cells + mc) (slots + ms) mem' (pc + 3) lv (o.toList ++ rest)) : Xg l M A Z E G cells slots mem pc lv st := by
  intro p e s m args below meth c H locs ls C hP hD hS hL
  obtain ⟨w2, w4, w5, hret, hnm, hy⟩ := hok
  have w5' : Cond.code Mc.1 Mc.2.1 Mc.2.2.1 Mc.2.2.2.1 ∈ TB := by rw [hret]; exact w5
  have hrun := va_runI (p := p) (e := e) (R := M.2.2.2.2) (below := below) (meth := meth) (H := H) (locs := locs) (cells := cells) (slots := slots) (g := F0 m pc ls st) (b := gA G j) (As := As) (rest := rest) (S := ⟨C.1, C.2.1, C.2.2.1, C.2.2.2.1, C.2.2.2.2.1⟩) (hM := hct H.size) (cw := cwI n C.2.2.2.2.1 (gI_TB w5') (by rw [wsM, hret]) hrm.1.1 hrm.1.2 (C.2.2.2.2.1 _ w4) (C.2.2.2.2.1 _ w1) (C.2.2.2.2.1 _ w2) hnm hy hrm.2.1)
    ⟨Pm_blind, fun U hU hW => ⟨rfl, by rw [hU], by rw [hU]; exact hP, va_K.moved hW.alike C.2.2.2.2.2.2.2.2.1, hD.weaken (fun _ _ _ _ => trivial)⟩⟩ rfl hn hL.1 hst (lv_room hcat) hdg hrm.2.2
  exact x_run hrun hD hS C.2.2.2.2.2.2.2.2.2.1 (fun o G' mem' H1 locs1 hp hd1 hd2 hP1 hD1 hS1 => kk o G' mem' hp hd1 hd2 p e s m args below meth c H1 locs1 ls (by unfold Cx at C ⊢; rw [hd1, hd2]; exact C) (by rw [hd1]; exact hP1) hD1 hS1 hL)
/-- calls of methods that make no cells -/
theorem x_callVI {Mc : MTy} {index ci n N : Nat} {As rest fs : List Value} {C0 : String} {T : u_T} {P : Int32 → Mem → Prop} (j : Nat) (hct : CtI l Mc G (.ref (gA G j) :: As) mem P) (hok : OkV Mc C0 n) (hdg : decode M.2.1 pc = .ok (.invokevirtual index, 3)) (w1 : Cond.methodLink M.1.cls index Mc.1 ∈ TB) (hrm : RmOk Mc M 0 0 cells slots) (hj : j < gK G) (hc : cellR G j (mem j) = .inr (ci, fs)) (hcl : vwCl[ci]? = some (C0, T, N)) (hn : As.length = n) (hst : st = As.reverse ++ .ref (gA G j) :: rest) (hcat : (rest.map fun v => v.category).sum ≤ 8)
    (kk : ∀ (r : Int32) (mem' : Mem), P r mem' → Xg l M A Z E G cells slots mem' (pc + 3) lv (.int r :: rest)) : Xg l M A Z E G cells slots mem pc lv st := by
  refine x_callV j hct hok hdg w1 hrm hj hc hcl hn hst hcat (fun o G' mem' h _ _ => ?_)
  obtain ⟨rfl, r, rfl, h⟩ := h
  exact kk r mem' h
theorem x_callVL {Mc : MTy} {index ci n N : Nat} {As rest fs : List Value} {C0 : String} {T : u_T} {P : Int64 → Mem → Prop} (j : Nat) (hct : CtL l Mc G (.ref (gA G j) :: As) mem P) (hok : OkV Mc C0 n) (hdg : decode M.2.1 pc = .ok (.invokevirtual index, 3)) (w1 : Cond.methodLink M.1.cls index Mc.1 ∈ TB) (hrm : RmOk Mc M 0 0 cells slots) (hj : j < gK G) (hc : cellR G j (mem j) = .inr (ci, fs)) (hcl : vwCl[ci]? = some (C0, T, N)) (hn : As.length = n) (hst : st = As.reverse ++ .ref (gA G j) :: rest) (hcat : (rest.map fun v => v.category).sum ≤ 8)
    (kk : ∀ (r : Int64) (mem' : Mem), P r mem' → Xg l M A Z E G cells slots mem' (pc + 3) lv (.long r :: rest)) : Xg l M A Z E G cells slots mem pc lv st := by
  refine x_callV j hct hok hdg w1 hrm hj hc hcl hn hst hcat (fun o G' mem' h _ _ => ?_)
  obtain ⟨rfl, r, rfl, h⟩ := h
  exact kk r mem' h
theorem x_callVV {Mc : MTy} {index ci n N : Nat} {As rest fs : List Value} {C0 : String} {T : u_T} {P : Mem → Prop} (j : Nat) (hct : CtV l Mc G (.ref (gA G j) :: As) mem P) (hok : OkV Mc C0 n) (hdg : decode M.2.1 pc = .ok (.invokevirtual index, 3)) (w1 : Cond.methodLink M.1.cls index Mc.1 ∈ TB) (hrm : RmOk Mc M 0 0 cells slots) (hj : j < gK G) (hc : cellR G j (mem j) = .inr (ci, fs)) (hcl : vwCl[ci]? = some (C0, T, N)) (hn : As.length = n) (hst : st = As.reverse ++ .ref (gA G j) :: rest) (hcat : (rest.map fun v => v.category).sum ≤ 8)
    (kk : ∀ (mem' : Mem), P mem' → Xg l M A Z E G cells slots mem' (pc + 3) lv rest) : Xg l M A Z E G cells slots mem pc lv st := by
  refine x_callV j hct hok hdg w1 hrm hj hc hcl hn hst hcat (fun o G' mem' h _ _ => ?_)
  obtain ⟨rfl, rfl, h⟩ := h
  exact kk mem' h
theorem x_callSI {Mc : MTy} {index n : Nat} {As rest : List Value} {P : Int32 → Mem → Prop} (hct : CtI l Mc G As mem P) (hok : OkS Mc n) (hdg : decode M.2.1 pc = .ok (.invokestatic index, 3)) (w1 : Cond.methodLink M.1.cls index Mc.1 ∈ TB) (hrm : RmOk Mc M 0 0 cells slots) (hn : As.length = n) (hst : st = As.reverse ++ rest) (hcat : (rest.map fun v => v.category).sum ≤ 8)
    (kk : ∀ (r : Int32) (mem' : Mem), P r mem' → Xg l M A Z E G cells slots mem' (pc + 3) lv (.int r :: rest)) : Xg l M A Z E G cells slots mem pc lv st := by
  refine x_callS hct hok hdg w1 hrm hn hst hcat (fun o G' mem' h _ _ => ?_)
  obtain ⟨rfl, r, rfl, h⟩ := h
  exact kk r mem' h
theorem x_callSL {Mc : MTy} {index n : Nat} {As rest : List Value} {P : Int64 → Mem → Prop} (hct : CtL l Mc G As mem P) (hok : OkS Mc n) (hdg : decode M.2.1 pc = .ok (.invokestatic index, 3)) (w1 : Cond.methodLink M.1.cls index Mc.1 ∈ TB) (hrm : RmOk Mc M 0 0 cells slots) (hn : As.length = n) (hst : st = As.reverse ++ rest) (hcat : (rest.map fun v => v.category).sum ≤ 8)
    (kk : ∀ (r : Int64) (mem' : Mem), P r mem' → Xg l M A Z E G cells slots mem' (pc + 3) lv (.long r :: rest)) : Xg l M A Z E G cells slots mem pc lv st := by
  refine x_callS hct hok hdg w1 hrm hn hst hcat (fun o G' mem' h _ _ => ?_)
  obtain ⟨rfl, r, rfl, h⟩ := h
  exact kk r mem' h
theorem x_callSV {Mc : MTy} {index n : Nat} {As rest : List Value} {P : Mem → Prop} (hct : CtV l Mc G As mem P) (hok : OkS Mc n) (hdg : decode M.2.1 pc = .ok (.invokestatic index, 3)) (w1 : Cond.methodLink M.1.cls index Mc.1 ∈ TB) (hrm : RmOk Mc M 0 0 cells slots) (hn : As.length = n) (hst : st = As.reverse ++ rest) (hcat : (rest.map fun v => v.category).sum ≤ 8)
    (kk : ∀ (mem' : Mem), P mem' → Xg l M A Z E G cells slots mem' (pc + 3) lv rest) : Xg l M A Z E G cells slots mem pc lv st := by
  refine x_callS hct hok hdg w1 hrm hn hst hcat (fun o G' mem' h _ _ => ?_)
  obtain ⟨rfl, rfl, h⟩ := h
  exact kk mem' h
end XC
section XE
variable {l : Launch} {M : MTy} {G0 G : Gx} {mc ms : Nat} {mem : Mem} {pc : Nat} {lv : Lv}
theorem Qm_of {P : Option Value → Gx → Mem → Prop} {o : Option Value} {s t : State} {args : Array Value} {H : Heap} {locs : List Loc} (h : P o G mem) (hd : gD G = gD G0) (hc : gC G = gC G0) (hP : va_P (gD G) vwCl (wd (gK G) (gA G) (cellOf G mem)) H) (hD : va_D (Fr G0 s.heap.size) (wd (gK G) (gA G) (cellOf G mem))) (hS : va_S (Fr G0 s.heap.size) s.heap H locs) (ht : t.heap = H) : Qm G0 P s.heap.size args s (.returned o) t :=
  ⟨⟨o, G, mem, rfl, h, hd, hc, by rw [ht, ← hd]; exact hP, hD⟩, hS.F ht⟩
theorem x_iret {P : Option Value → Gx → Mem → Prop} {v : Int32} (hdg : decode M.2.1 pc = .ok (.ireturn, 1)) (hr : M.2.2.2.1 = some .int) (hd : gD G = gD G0) (hc : gC G = gC G0) (h : P (some (.int v)) G mem) : Xm l M G0 mc ms P G mc ms mem pc lv [.int v] := by
  intro p e s m args below meth c H locs ls C hP hD hS hL
  exact W.iret C.1 C.2.1 (C.2.2.2.2.2.1.trans hr) (fun t ht _ => Qm_of h hd hc hP hD hS ht) hS.2.2 hdg C.2.2.2.2.2.2.1
theorem x_zret {P : Option Value → Gx → Mem → Prop} {v : Int32} (hdg : decode M.2.1 pc = .ok (.ireturn, 1)) (hr : M.2.2.2.1 = some .boolean) (hd : gD G = gD G0) (hc : gC G = gC G0) (hv : v = 0 ∨ v = 1) (h : P (some (.int v)) G mem) : Xm l M G0 mc ms P G mc ms mem pc lv [.int v] := by
  intro p e s m args below meth c H locs ls C hP hD hS hL
  exact W.zret C.1 C.2.1 (C.2.2.2.2.2.1.trans hr) (by rcases hv with rfl | rfl <;> rfl) (fun t ht _ => Qm_of h hd hc hP hD hS ht) hS.2.2 hdg C.2.2.2.2.2.2.1
theorem x_lret {P : Option Value → Gx → Mem → Prop} {v : Int64} (hdg : decode M.2.1 pc = .ok (.lreturn, 1)) (hr : M.2.2.2.1 = some .long) (hd : gD G = gD G0) (hc : gC G = gC G0) (h : P (some (.long v)) G mem) : Xm l M G0 mc ms P G mc ms mem pc lv [.long v] := by
  intro p e s m args below meth c H locs ls C hP hD hS hL
  exact W.lret C.1 C.2.1 (C.2.2.2.2.2.1.trans hr) (fun t ht _ => Qm_of h hd hc hP hD hS ht) hS.2.2 hdg C.2.2.2.2.2.2.1
theorem x_vret {P : Option Value → Gx → Mem → Prop} (hdg : decode M.2.1 pc = .ok (.return_, 1)) (hr : M.2.2.2.1 = none) (hd : gD G = gD G0) (hc : gC G = gC G0) (h : P none G mem) : Xm l M G0 mc ms P G mc ms mem pc lv [] := by
  intro p e s m args below meth c H locs ls C hP hD hS hL
  exact W.vret C.1 C.2.1 (C.2.2.2.2.2.1.trans hr) (fun t ht _ => Qm_of h hd hc hP hD hS ht) hS.2.2 hdg C.2.2.2.2.2.2.1
/-- the ends of methods that make no cells -/
theorem x_endI {P : Int32 → Mem → Prop} {v : Int32} (hdg : decode M.2.1 pc = .ok (.ireturn, 1)) (hr : M.2.2.2.1 = some .int) (h : P v mem) : XI l M G P mem pc lv [.int v] := x_iret hdg hr rfl rfl ⟨rfl, v, rfl, h⟩
theorem x_endZ {P : Int32 → Mem → Prop} {v : Int32} (hdg : decode M.2.1 pc = .ok (.ireturn, 1)) (hr : M.2.2.2.1 = some .boolean) (hv : v = 0 ∨ v = 1) (h : P v mem) : XI l M G P mem pc lv [.int v] := x_zret hdg hr rfl rfl hv ⟨rfl, v, rfl, h⟩
theorem x_endL {P : Int64 → Mem → Prop} {v : Int64} (hdg : decode M.2.1 pc = .ok (.lreturn, 1)) (hr : M.2.2.2.1 = some .long) (h : P v mem) : XL l M G P mem pc lv [.long v] := x_lret hdg hr rfl rfl ⟨rfl, v, rfl, h⟩
theorem x_endV {P : Mem → Prop} (hdg : decode M.2.1 pc = .ok (.return_, 1)) (hr : M.2.2.2.1 = none) (h : P mem) : XV l M G P mem pc lv [] := x_vret hdg hr rfl rfl ⟨rfl, rfl, h⟩
end XE
theorem CtI.mono {l : Launch} {M : MTy} {G : Gx} {As : List Value} {mem : Mem} {P P' : Int32 → Mem → Prop} (h : CtI l M G As mem P) (hp : ∀ r m', P r m' → P' r m') : CtI l M G As mem P' := Ctg.mono h (fun _ _ _ ⟨a, r, b, c⟩ => ⟨a, r, b, hp _ _ c⟩)
theorem CtL.mono {l : Launch} {M : MTy} {G : Gx} {As : List Value} {mem : Mem} {P P' : Int64 → Mem → Prop} (h : CtL l M G As mem P) (hp : ∀ r m', P r m' → P' r m') : CtL l M G As mem P' := Ctg.mono h (fun _ _ _ ⟨a, r, b, c⟩ => ⟨a, r, b, hp _ _ c⟩)
theorem CtV.mono {l : Launch} {M : MTy} {G : Gx} {As : List Value} {mem : Mem} {P P' : Mem → Prop} (h : CtV l M G As mem P) (hp : ∀ m', P m' → P' m') : CtV l M G As mem P' := Ctg.mono h (fun _ _ _ ⟨a, b, c⟩ => ⟨a, b, hp _ c⟩)
end
