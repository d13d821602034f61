section
-- ===== PART A: goes FIRST, ahead of the names: the tables' words, and 'selects' of the private methods out of them =====
/-- a private method of a class that the tables say can be made, by its rows of tables_1 -/
def lw_okq (q : MethodName × Nat) : Prop := (q.1.cls ≠ "java/lang/invoke/MethodHandle" ∧ q.1.cls ≠ "java/lang/invoke/VarHandle") ∧ Cond.instantiable q.1.cls q.2 ∈ tables_1 ∧ Cond.privateMethod q.1 ∈ tables_1 ∧ Cond.instanceMethod q.1 ∈ tables_1
theorem lw_p0 : lw_okq (⟨"WeightedForest$Survey", "extendOver", "(II)V"⟩, 3) := ⟨⟨by decide +kernel, by decide +kernel⟩, List.mem_of_getElem? (i := 56) (by decide +kernel), List.mem_of_getElem? (i := 262) (by decide +kernel), List.mem_of_getElem? (i := 263) (by decide +kernel)⟩
theorem lw_p1 : lw_okq (⟨"WeightedForest$Survey", "stepToward", "(II)I"⟩, 3) := ⟨⟨by decide +kernel, by decide +kernel⟩, List.mem_of_getElem? (i := 56) (by decide +kernel), List.mem_of_getElem? (i := 340) (by decide +kernel), List.mem_of_getElem? (i := 341) (by decide +kernel)⟩
theorem lw_p2 : lw_okq (⟨"WeightedForest$Survey", "onPath", "(III)Z"⟩, 3) := ⟨⟨by decide +kernel, by decide +kernel⟩, List.mem_of_getElem? (i := 56) (by decide +kernel), List.mem_of_getElem? (i := 411) (by decide +kernel), List.mem_of_getElem? (i := 412) (by decide +kernel)⟩
theorem lw_p3 : lw_okq (⟨"WeightedForest$Contraction", "copyEdges", "(LWeightedForest$Forest;)V"⟩, 7) := ⟨⟨by decide +kernel, by decide +kernel⟩, List.mem_of_getElem? (i := 73) (by decide +kernel), List.mem_of_getElem? (i := 423) (by decide +kernel), List.mem_of_getElem? (i := 424) (by decide +kernel)⟩
theorem lw_p4 : lw_okq (⟨"WeightedForest$Contraction", "gatherTree", "(I)V"⟩, 7) := ⟨⟨by decide +kernel, by decide +kernel⟩, List.mem_of_getElem? (i := 73) (by decide +kernel), List.mem_of_getElem? (i := 429) (by decide +kernel), List.mem_of_getElem? (i := 430) (by decide +kernel)⟩
theorem lw_p5 : lw_okq (⟨"WeightedForest$Contraction", "isVertex", "(I)Z"⟩, 7) := ⟨⟨by decide +kernel, by decide +kernel⟩, List.mem_of_getElem? (i := 73) (by decide +kernel), List.mem_of_getElem? (i := 433) (by decide +kernel), List.mem_of_getElem? (i := 434) (by decide +kernel)⟩
theorem lw_p6 : lw_okq (⟨"WeightedForest$Contraction", "gatherNeighbours", "()V"⟩, 7) := ⟨⟨by decide +kernel, by decide +kernel⟩, List.mem_of_getElem? (i := 73) (by decide +kernel), List.mem_of_getElem? (i := 437) (by decide +kernel), List.mem_of_getElem? (i := 438) (by decide +kernel)⟩
theorem lw_p7 : lw_okq (⟨"WeightedForest$Contraction", "rake", "()V"⟩, 7) := ⟨⟨by decide +kernel, by decide +kernel⟩, List.mem_of_getElem? (i := 73) (by decide +kernel), List.mem_of_getElem? (i := 441) (by decide +kernel), List.mem_of_getElem? (i := 442) (by decide +kernel)⟩
theorem lw_p8 : lw_okq (⟨"WeightedForest$Contraction", "removeGreatest", "()V"⟩, 7) := ⟨⟨by decide +kernel, by decide +kernel⟩, List.mem_of_getElem? (i := 73) (by decide +kernel), List.mem_of_getElem? (i := 445) (by decide +kernel), List.mem_of_getElem? (i := 446) (by decide +kernel)⟩
theorem lw_p9 : lw_okq (⟨"WeightedForest$Contraction", "remove", "(I)V"⟩, 7) := ⟨⟨by decide +kernel, by decide +kernel⟩, List.mem_of_getElem? (i := 73) (by decide +kernel), List.mem_of_getElem? (i := 449) (by decide +kernel), List.mem_of_getElem? (i := 450) (by decide +kernel)⟩
theorem lw_p10 : lw_okq (⟨"WeightedForest$Contraction", "degreeOf", "(I)I"⟩, 7) := ⟨⟨by decide +kernel, by decide +kernel⟩, List.mem_of_getElem? (i := 73) (by decide +kernel), List.mem_of_getElem? (i := 453) (by decide +kernel), List.mem_of_getElem? (i := 454) (by decide +kernel)⟩
theorem lw_p11 : lw_okq (⟨"WeightedForest$Contraction", "compress", "()V"⟩, 7) := ⟨⟨by decide +kernel, by decide +kernel⟩, List.mem_of_getElem? (i := 73) (by decide +kernel), List.mem_of_getElem? (i := 457) (by decide +kernel), List.mem_of_getElem? (i := 458) (by decide +kernel)⟩
theorem lw_p12 : lw_okq (⟨"WeightedForest$Contraction", "makeEdgesOld", "()V"⟩, 7) := ⟨⟨by decide +kernel, by decide +kernel⟩, List.mem_of_getElem? (i := 73) (by decide +kernel), List.mem_of_getElem? (i := 461) (by decide +kernel), List.mem_of_getElem? (i := 462) (by decide +kernel)⟩
theorem lw_p13 : lw_okq (⟨"WeightedForest$Contraction", "bypass", "(I)V"⟩, 7) := ⟨⟨by decide +kernel, by decide +kernel⟩, List.mem_of_getElem? (i := 73) (by decide +kernel), List.mem_of_getElem? (i := 466) (by decide +kernel), List.mem_of_getElem? (i := 467) (by decide +kernel)⟩
theorem lw_p14 : lw_okq (⟨"WeightedForest$Contraction", "neighbourAfter", "(II)I"⟩, 7) := ⟨⟨by decide +kernel, by decide +kernel⟩, List.mem_of_getElem? (i := 73) (by decide +kernel), List.mem_of_getElem? (i := 470) (by decide +kernel), List.mem_of_getElem? (i := 471) (by decide +kernel)⟩
theorem lw_p15 : lw_okq (⟨"WeightedForest$Survey", "heavierPart", "(II)I"⟩, 3) := ⟨⟨by decide +kernel, by decide +kernel⟩, List.mem_of_getElem? (i := 56) (by decide +kernel), List.mem_of_getElem? (i := 502) (by decide +kernel), List.mem_of_getElem? (i := 503) (by decide +kernel)⟩
def lw_privs_1 : List (MethodName × Nat) := [(⟨"WeightedForest$Survey", "extendOver", "(II)V"⟩, 3), (⟨"WeightedForest$Survey", "stepToward", "(II)I"⟩, 3), (⟨"WeightedForest$Survey", "onPath", "(III)Z"⟩, 3), (⟨"WeightedForest$Contraction", "copyEdges", "(LWeightedForest$Forest;)V"⟩, 7), (⟨"WeightedForest$Contraction", "gatherTree", "(I)V"⟩, 7), (⟨"WeightedForest$Contraction", "isVertex", "(I)Z"⟩, 7), (⟨"WeightedForest$Contraction", "gatherNeighbours", "()V"⟩, 7), (⟨"WeightedForest$Contraction", "rake", "()V"⟩, 7), (⟨"WeightedForest$Contraction", "removeGreatest", "()V"⟩, 7), (⟨"WeightedForest$Contraction", "remove", "(I)V"⟩, 7), (⟨"WeightedForest$Contraction", "degreeOf", "(I)I"⟩, 7), (⟨"WeightedForest$Contraction", "compress", "()V"⟩, 7), (⟨"WeightedForest$Contraction", "makeEdgesOld", "()V"⟩, 7), (⟨"WeightedForest$Contraction", "bypass", "(I)V"⟩, 7), (⟨"WeightedForest$Contraction", "neighbourAfter", "(II)I"⟩, 7), (⟨"WeightedForest$Survey", "heavierPart", "(II)I"⟩, 3)]
theorem lw_r1 : ∀ q ∈ lw_privs_1, lw_okq q := List.forall_mem_cons.mpr ⟨lw_p0, List.forall_mem_cons.mpr ⟨lw_p1, List.forall_mem_cons.mpr ⟨lw_p2, List.forall_mem_cons.mpr ⟨lw_p3, List.forall_mem_cons.mpr ⟨lw_p4, List.forall_mem_cons.mpr ⟨lw_p5, List.forall_mem_cons.mpr ⟨lw_p6, List.forall_mem_cons.mpr ⟨lw_p7, List.forall_mem_cons.mpr ⟨lw_p8, List.forall_mem_cons.mpr ⟨lw_p9, List.forall_mem_cons.mpr ⟨lw_p10, List.forall_mem_cons.mpr ⟨lw_p11, List.forall_mem_cons.mpr ⟨lw_p12, List.forall_mem_cons.mpr ⟨lw_p13, List.forall_mem_cons.mpr ⟨lw_p14, List.forall_mem_cons.mpr ⟨lw_p15, fun _ h => absurd h List.not_mem_nil⟩⟩⟩⟩⟩⟩⟩⟩⟩⟩⟩⟩⟩⟩⟩⟩
theorem lw_p16 : lw_okq (⟨"WeightedForest$Survey", "chanceOfPath", "(III)J"⟩, 3) := ⟨⟨by decide +kernel, by decide +kernel⟩, List.mem_of_getElem? (i := 56) (by decide +kernel), List.mem_of_getElem? (i := 517) (by decide +kernel), List.mem_of_getElem? (i := 518) (by decide +kernel)⟩
theorem lw_p17 : lw_okq (⟨"WeightedForest", "obeys", "(I)Z"⟩, 10) := ⟨⟨by decide +kernel, by decide +kernel⟩, List.mem_of_getElem? (i := 16) (by decide +kernel), List.mem_of_getElem? (i := 559) (by decide +kernel), List.mem_of_getElem? (i := 560) (by decide +kernel)⟩
theorem lw_p18 : lw_okq (⟨"WeightedForest", "triesLink", "(II)Z"⟩, 10) := ⟨⟨by decide +kernel, by decide +kernel⟩, List.mem_of_getElem? (i := 16) (by decide +kernel), List.mem_of_getElem? (i := 563) (by decide +kernel), List.mem_of_getElem? (i := 564) (by decide +kernel)⟩
theorem lw_p19 : lw_okq (⟨"WeightedForest", "triesCut", "(II)Z"⟩, 10) := ⟨⟨by decide +kernel, by decide +kernel⟩, List.mem_of_getElem? (i := 16) (by decide +kernel), List.mem_of_getElem? (i := 567) (by decide +kernel), List.mem_of_getElem? (i := 568) (by decide +kernel)⟩
theorem lw_p20 : lw_okq (⟨"WeightedForest", "joinedInTrial", "(II)Z"⟩, 10) := ⟨⟨by decide +kernel, by decide +kernel⟩, List.mem_of_getElem? (i := 16) (by decide +kernel), List.mem_of_getElem? (i := 571) (by decide +kernel), List.mem_of_getElem? (i := 572) (by decide +kernel)⟩
theorem lw_p21 : lw_okq (⟨"WeightedForest", "leavesEarlier", "(II)Z"⟩, 10) := ⟨⟨by decide +kernel, by decide +kernel⟩, List.mem_of_getElem? (i := 16) (by decide +kernel), List.mem_of_getElem? (i := 575) (by decide +kernel), List.mem_of_getElem? (i := 576) (by decide +kernel)⟩
theorem lw_p22 : lw_okq (⟨"WeightedForest", "changeTrial", "(I)V"⟩, 10) := ⟨⟨by decide +kernel, by decide +kernel⟩, List.mem_of_getElem? (i := 16) (by decide +kernel), List.mem_of_getElem? (i := 586) (by decide +kernel), List.mem_of_getElem? (i := 587) (by decide +kernel)⟩
theorem lw_p23 : lw_okq (⟨"WeightedForest$SetupText", "take", "(II)I"⟩, 4) := ⟨⟨by decide +kernel, by decide +kernel⟩, List.mem_of_getElem? (i := 103) (by decide +kernel), List.mem_of_getElem? (i := 670) (by decide +kernel), List.mem_of_getElem? (i := 671) (by decide +kernel)⟩
theorem lw_p24 : lw_okq (⟨"WeightedForest$SetupText", "takeNumber", "(II)I"⟩, 4) := ⟨⟨by decide +kernel, by decide +kernel⟩, List.mem_of_getElem? (i := 103) (by decide +kernel), List.mem_of_getElem? (i := 674) (by decide +kernel), List.mem_of_getElem? (i := 675) (by decide +kernel)⟩
theorem lw_p25 : lw_okq (⟨"WeightedForest$SetupText", "takeWeights", "(LWeightedForest$Forest;)Z"⟩, 4) := ⟨⟨by decide +kernel, by decide +kernel⟩, List.mem_of_getElem? (i := 103) (by decide +kernel), List.mem_of_getElem? (i := 679) (by decide +kernel), List.mem_of_getElem? (i := 680) (by decide +kernel)⟩
theorem lw_p26 : lw_okq (⟨"WeightedForest$SetupText", "takeEdges", "(LWeightedForest$Forest;)Z"⟩, 4) := ⟨⟨by decide +kernel, by decide +kernel⟩, List.mem_of_getElem? (i := 103) (by decide +kernel), List.mem_of_getElem? (i := 685) (by decide +kernel), List.mem_of_getElem? (i := 686) (by decide +kernel)⟩
theorem lw_p27 : lw_okq (⟨"WeightedForest$SetupText", "takeEdge", "(LWeightedForest$Forest;)Z"⟩, 4) := ⟨⟨by decide +kernel, by decide +kernel⟩, List.mem_of_getElem? (i := 103) (by decide +kernel), List.mem_of_getElem? (i := 689) (by decide +kernel), List.mem_of_getElem? (i := 690) (by decide +kernel)⟩
theorem lw_p28 : lw_okq (⟨"WeightedForest$SetupText", "joinTrees", "(II)V"⟩, 4) := ⟨⟨by decide +kernel, by decide +kernel⟩, List.mem_of_getElem? (i := 103) (by decide +kernel), List.mem_of_getElem? (i := 694) (by decide +kernel), List.mem_of_getElem? (i := 695) (by decide +kernel)⟩
theorem lw_p29 : lw_okq (⟨"WeightedForest", "emptySlots", "()V"⟩, 10) := ⟨⟨by decide +kernel, by decide +kernel⟩, List.mem_of_getElem? (i := 16) (by decide +kernel), List.mem_of_getElem? (i := 698) (by decide +kernel), List.mem_of_getElem? (i := 699) (by decide +kernel)⟩
def lw_privs_2 : List (MethodName × Nat) := [(⟨"WeightedForest$Survey", "chanceOfPath", "(III)J"⟩, 3), (⟨"WeightedForest", "obeys", "(I)Z"⟩, 10), (⟨"WeightedForest", "triesLink", "(II)Z"⟩, 10), (⟨"WeightedForest", "triesCut", "(II)Z"⟩, 10), (⟨"WeightedForest", "joinedInTrial", "(II)Z"⟩, 10), (⟨"WeightedForest", "leavesEarlier", "(II)Z"⟩, 10), (⟨"WeightedForest", "changeTrial", "(I)V"⟩, 10), (⟨"WeightedForest$SetupText", "take", "(II)I"⟩, 4), (⟨"WeightedForest$SetupText", "takeNumber", "(II)I"⟩, 4), (⟨"WeightedForest$SetupText", "takeWeights", "(LWeightedForest$Forest;)Z"⟩, 4), (⟨"WeightedForest$SetupText", "takeEdges", "(LWeightedForest$Forest;)Z"⟩, 4), (⟨"WeightedForest$SetupText", "takeEdge", "(LWeightedForest$Forest;)Z"⟩, 4), (⟨"WeightedForest$SetupText", "joinTrees", "(II)V"⟩, 4), (⟨"WeightedForest", "emptySlots", "()V"⟩, 10)]
theorem lw_r2 : ∀ q ∈ lw_privs_2, lw_okq q := List.forall_mem_cons.mpr ⟨lw_p16, List.forall_mem_cons.mpr ⟨lw_p17, List.forall_mem_cons.mpr ⟨lw_p18, List.forall_mem_cons.mpr ⟨lw_p19, List.forall_mem_cons.mpr ⟨lw_p20, List.forall_mem_cons.mpr ⟨lw_p21, List.forall_mem_cons.mpr ⟨lw_p22, List.forall_mem_cons.mpr ⟨lw_p23, List.forall_mem_cons.mpr ⟨lw_p24, List.forall_mem_cons.mpr ⟨lw_p25, List.forall_mem_cons.mpr ⟨lw_p26, List.forall_mem_cons.mpr ⟨lw_p27, List.forall_mem_cons.mpr ⟨lw_p28, List.forall_mem_cons.mpr ⟨lw_p29, fun _ h => absurd h List.not_mem_nil⟩⟩⟩⟩⟩⟩⟩⟩⟩⟩⟩⟩⟩⟩
def lw_privs : List (MethodName × Nat) := lw_privs_1 ++ (lw_privs_2)
def lw_tbl : List Cond := k2_sels lw_privs ++ tables_1
theorem lw_privs_ok : ∀ q ∈ lw_privs, lw_okq q := by
  show ∀ q ∈ lw_privs_1 ++ (lw_privs_2), lw_okq q
  exact List.forall_mem_append.mpr ⟨lw_r1, lw_r2⟩
-- ===== end of PART A; then your names; then what follows =====
def R_law : String := "WeightedForestLaw"
end
section
def RX0 : String := "WeightedForest$Contraction"
def TX0 : u_T := fun k => match k with
  | 0 => ("WeightedForest$Contraction", "count", "I", false)
  | 1 => ("WeightedForest$Contraction", "remaining", "I", false)
  | 2 => ("WeightedForest$Contraction", "round", "I", false)
  | 3 => ("WeightedForest$Contraction", "present", "[Z", true)
  | 4 => ("WeightedForest$Contraction", "raked", "[Z", true)
  | 5 => ("WeightedForest$Contraction", "removedIn", "[I", true)
  | _ => ("WeightedForest$Contraction", "edges", "[[I", true)
def tyX0 : Nat → FieldType := fun k => match k with
  | 0 => .int
  | 1 => .int
  | 2 => .int
  | 3 => .array .boolean
  | 4 => .array .boolean
  | 5 => .array .int
  | _ => .array (.array .int)
abbrev wsX00 : List Cond := u_ws RX0 TX0 7
theorem nmX0 : ∀ a, a < 7 → ∀ b, b < 7 → a ≠ b → (TX0 a).2.1 ≠ (TX0 b).2.1 := by decide +kernel
theorem tyX0_ok : ∀ k, k < 7 → parseFieldDescriptor (TX0 k).2.2.1 = some (tyX0 k) := by decide +kernel
abbrev cX0_init : ByteArray := prog_2_method_1_code
def yX0_init : MethodName := ⟨RX0, "<init>", "()V"⟩
abbrev cX0_contract : ByteArray := prog_2_method_2_code
def yX0_contract : MethodName := ⟨RX0, "contract", "(LWeightedForest$Forest;I)V"⟩
abbrev cX0_roundCount : ByteArray := prog_2_method_3_code
def yX0_roundCount : MethodName := ⟨RX0, "roundCount", "()I"⟩
abbrev cX0_roundOf : ByteArray := prog_2_method_4_code
def yX0_roundOf : MethodName := ⟨RX0, "roundOf", "(I)I"⟩
abbrev cX0_lastVertex : ByteArray := prog_2_method_5_code
def yX0_lastVertex : MethodName := ⟨RX0, "lastVertex", "()I"⟩
abbrev cX0_isVertex : ByteArray := prog_2_method_6_code
def yX0_isVertex : MethodName := ⟨RX0, "isVertex", "(I)Z"⟩
abbrev cX0_copyEdges : ByteArray := prog_2_method_7_code
def yX0_copyEdges : MethodName := ⟨RX0, "copyEdges", "(LWeightedForest$Forest;)V"⟩
abbrev cX0_gatherTree : ByteArray := prog_2_method_8_code
def yX0_gatherTree : MethodName := ⟨RX0, "gatherTree", "(I)V"⟩
abbrev cX0_gatherNeighbours : ByteArray := prog_2_method_9_code
def yX0_gatherNeighbours : MethodName := ⟨RX0, "gatherNeighbours", "()V"⟩
abbrev cX0_rake : ByteArray := prog_2_method_10_code
def yX0_rake : MethodName := ⟨RX0, "rake", "()V"⟩
abbrev cX0_removeGreatest : ByteArray := prog_2_method_11_code
def yX0_removeGreatest : MethodName := ⟨RX0, "removeGreatest", "()V"⟩
abbrev cX0_compress : ByteArray := prog_2_method_12_code
def yX0_compress : MethodName := ⟨RX0, "compress", "()V"⟩
abbrev cX0_makeEdgesOld : ByteArray := prog_2_method_13_code
def yX0_makeEdgesOld : MethodName := ⟨RX0, "makeEdgesOld", "()V"⟩
abbrev cX0_bypass : ByteArray := prog_2_method_14_code
def yX0_bypass : MethodName := ⟨RX0, "bypass", "(I)V"⟩
abbrev cX0_neighbourAfter : ByteArray := prog_2_method_15_code
def yX0_neighbourAfter : MethodName := ⟨RX0, "neighbourAfter", "(II)I"⟩
abbrev cX0_degreeOf : ByteArray := prog_2_method_16_code
def yX0_degreeOf : MethodName := ⟨RX0, "degreeOf", "(I)I"⟩
abbrev cX0_remove : ByteArray := prog_2_method_17_code
def yX0_remove : MethodName := ⟨RX0, "remove", "(I)V"⟩
def RX1 : String := "WeightedForest$Forest"
def TX1 : u_T := fun k => match k with
  | 0 => ("WeightedForest$Forest", "count", "I", false)
  | 1 => ("WeightedForest$Forest", "weights", "[I", true)
  | _ => ("WeightedForest$Forest", "edges", "[[I", true)
def tyX1 : Nat → FieldType := fun k => match k with
  | 0 => .int
  | 1 => .array .int
  | _ => .array (.array .int)
abbrev wsX10 : List Cond := u_ws RX1 TX1 3
theorem nmX1 : ∀ a, a < 3 → ∀ b, b < 3 → a ≠ b → (TX1 a).2.1 ≠ (TX1 b).2.1 := by decide +kernel
theorem tyX1_ok : ∀ k, k < 3 → parseFieldDescriptor (TX1 k).2.2.1 = some (tyX1 k) := by decide +kernel
abbrev cX1_init : ByteArray := prog_3_method_1_code
def yX1_init : MethodName := ⟨RX1, "<init>", "()V"⟩
abbrev cX1_reset : ByteArray := prog_3_method_2_code
def yX1_reset : MethodName := ⟨RX1, "reset", "(I)V"⟩
abbrev cX1_become : ByteArray := prog_3_method_3_code
def yX1_become : MethodName := ⟨RX1, "become", "(LWeightedForest$Forest;)V"⟩
abbrev cX1_vertices : ByteArray := prog_3_method_4_code
def yX1_vertices : MethodName := ⟨RX1, "vertices", "()I"⟩
abbrev cX1_hasVertex : ByteArray := prog_3_method_5_code
def yX1_hasVertex : MethodName := ⟨RX1, "hasVertex", "(I)Z"⟩
abbrev cX1_hasVertices : ByteArray := prog_3_method_6_code
def yX1_hasVertices : MethodName := ⟨RX1, "hasVertices", "(II)Z"⟩
abbrev cX1_weightOf : ByteArray := prog_3_method_7_code
def yX1_weightOf : MethodName := ⟨RX1, "weightOf", "(I)I"⟩
abbrev cX1_putWeight : ByteArray := prog_3_method_8_code
def yX1_putWeight : MethodName := ⟨RX1, "putWeight", "(II)V"⟩
abbrev cX1_hasEdge : ByteArray := prog_3_method_9_code
def yX1_hasEdge : MethodName := ⟨RX1, "hasEdge", "(II)Z"⟩
abbrev cX1_edgeBetween : ByteArray := prog_3_method_10_code
def yX1_edgeBetween : MethodName := ⟨RX1, "edgeBetween", "(II)I"⟩
abbrev cX1_putEdge : ByteArray := prog_3_method_11_code
def yX1_putEdge : MethodName := ⟨RX1, "putEdge", "(III)V"⟩
abbrev cX1_edgeCount : ByteArray := prog_3_method_12_code
def yX1_edgeCount : MethodName := ⟨RX1, "edgeCount", "()I"⟩
def RX2 : String := "WeightedForest$History"
def TX2 : u_T := fun k => match k with
  | 0 => ("WeightedForest$History", "states", "[LWeightedForest$Forest;", true)
  | 1 => ("WeightedForest$History", "next", "I", false)
  | _ => ("WeightedForest$History", "count", "I", false)
def tyX2 : Nat → FieldType := fun k => match k with
  | 0 => .array (.object "WeightedForest$Forest")
  | 1 => .int
  | _ => .int
abbrev wsX20 : List Cond := u_ws RX2 TX2 3
theorem nmX2 : ∀ a, a < 3 → ∀ b, b < 3 → a ≠ b → (TX2 a).2.1 ≠ (TX2 b).2.1 := by decide +kernel
theorem tyX2_ok : ∀ k, k < 3 → parseFieldDescriptor (TX2 k).2.2.1 = some (tyX2 k) := by decide +kernel
abbrev cX2_init : ByteArray := prog_4_method_1_code
def yX2_init : MethodName := ⟨RX2, "<init>", "()V"⟩
abbrev cX2_size : ByteArray := prog_4_method_2_code
def yX2_size : MethodName := ⟨RX2, "size", "()I"⟩
abbrev cX2_remember : ByteArray := prog_4_method_3_code
def yX2_remember : MethodName := ⟨RX2, "remember", "(LWeightedForest$Forest;)V"⟩
abbrev cX2_takeBack : ByteArray := prog_4_method_4_code
def yX2_takeBack : MethodName := ⟨RX2, "takeBack", "(LWeightedForest$Forest;)Z"⟩
abbrev cX2_forget : ByteArray := prog_4_method_5_code
def yX2_forget : MethodName := ⟨RX2, "forget", "()V"⟩
def RX3 : String := "WeightedForest$Observations"
def TX3 : u_T := fun k => match k with
  | 0 => ("WeightedForest$Observations", "starts", "[I", true)
  | 1 => ("WeightedForest$Observations", "ends", "[I", true)
  | 2 => ("WeightedForest$Observations", "lengths", "[I", true)
  | 3 => ("WeightedForest$Observations", "next", "I", false)
  | _ => ("WeightedForest$Observations", "count", "I", false)
def tyX3 : Nat → FieldType := fun k => match k with
  | 0 => .array .int
  | 1 => .array .int
  | 2 => .array .int
  | 3 => .int
  | _ => .int
abbrev wsX30 : List Cond := u_ws RX3 TX3 5
theorem nmX3 : ∀ a, a < 5 → ∀ b, b < 5 → a ≠ b → (TX3 a).2.1 ≠ (TX3 b).2.1 := by decide +kernel
theorem tyX3_ok : ∀ k, k < 5 → parseFieldDescriptor (TX3 k).2.2.1 = some (tyX3 k) := by decide +kernel
abbrev cX3_init : ByteArray := prog_5_method_1_code
def yX3_init : MethodName := ⟨RX3, "<init>", "()V"⟩
abbrev cX3_store : ByteArray := prog_5_method_2_code
def yX3_store : MethodName := ⟨RX3, "store", "(III)I"⟩
abbrev cX3_countWeights : ByteArray := prog_5_method_3_code
def yX3_countWeights : MethodName := ⟨RX3, "countWeights", "(LWeightedForest$Survey;II)I"⟩
def RX4 : String := "WeightedForest$SetupText"
def TX4 : u_T := fun k => match k with
  | 0 => ("WeightedForest$SetupText", "length", "I", false)
  | 1 => ("WeightedForest$SetupText", "signs", "[I", true)
  | 2 => ("WeightedForest$SetupText", "place", "I", false)
  | _ => ("WeightedForest$SetupText", "treeMarks", "[I", true)
def tyX4 : Nat → FieldType := fun k => match k with
  | 0 => .int
  | 1 => .array .int
  | 2 => .int
  | _ => .array .int
abbrev wsX40 : List Cond := u_ws RX4 TX4 4
theorem nmX4 : ∀ a, a < 4 → ∀ b, b < 4 → a ≠ b → (TX4 a).2.1 ≠ (TX4 b).2.1 := by decide +kernel
theorem tyX4_ok : ∀ k, k < 4 → parseFieldDescriptor (TX4 k).2.2.1 = some (tyX4 k) := by decide +kernel
abbrev cX4_init : ByteArray := prog_6_method_1_code
def yX4_init : MethodName := ⟨RX4, "<init>", "()V"⟩
abbrev cX4_size : ByteArray := prog_6_method_2_code
def yX4_size : MethodName := ⟨RX4, "size", "()I"⟩
abbrev cX4_put : ByteArray := prog_6_method_3_code
def yX4_put : MethodName := ⟨RX4, "put", "(I)Z"⟩
abbrev cX4_empty : ByteArray := prog_6_method_4_code
def yX4_empty : MethodName := ⟨RX4, "empty", "()V"⟩
abbrev cX4_readInto : ByteArray := prog_6_method_5_code
def yX4_readInto : MethodName := ⟨RX4, "readInto", "(LWeightedForest$Forest;)I"⟩
abbrev cX4_takeWeights : ByteArray := prog_6_method_6_code
def yX4_takeWeights : MethodName := ⟨RX4, "takeWeights", "(LWeightedForest$Forest;)Z"⟩
abbrev cX4_takeEdges : ByteArray := prog_6_method_7_code
def yX4_takeEdges : MethodName := ⟨RX4, "takeEdges", "(LWeightedForest$Forest;)Z"⟩
abbrev cX4_takeEdge : ByteArray := prog_6_method_8_code
def yX4_takeEdge : MethodName := ⟨RX4, "takeEdge", "(LWeightedForest$Forest;)Z"⟩
abbrev cX4_joinTrees : ByteArray := prog_6_method_9_code
def yX4_joinTrees : MethodName := ⟨RX4, "joinTrees", "(II)V"⟩
abbrev cX4_takeNumber : ByteArray := prog_6_method_10_code
def yX4_takeNumber : MethodName := ⟨RX4, "takeNumber", "(II)I"⟩
abbrev cX4_take : ByteArray := prog_6_method_11_code
def yX4_take : MethodName := ⟨RX4, "take", "(II)I"⟩
def RX5 : String := "WeightedForest$Survey"
def TX5 : u_T := fun k => match k with
  | 0 => ("WeightedForest$Survey", "forest", "LWeightedForest$Forest;", true)
  | 1 => ("WeightedForest$Survey", "count", "I", false)
  | _ => ("WeightedForest$Survey", "lengths", "[[I", true)
def tyX5 : Nat → FieldType := fun k => match k with
  | 0 => .object "WeightedForest$Forest"
  | 1 => .int
  | _ => .array (.array .int)
abbrev wsX50 : List Cond := u_ws RX5 TX5 3
theorem nmX5 : ∀ a, a < 3 → ∀ b, b < 3 → a ≠ b → (TX5 a).2.1 ≠ (TX5 b).2.1 := by decide +kernel
theorem tyX5_ok : ∀ k, k < 3 → parseFieldDescriptor (TX5 k).2.2.1 = some (tyX5 k) := by decide +kernel
abbrev cX5_init : ByteArray := prog_7_method_1_code
def yX5_init : MethodName := ⟨RX5, "<init>", "(LWeightedForest$Forest;)V"⟩
abbrev cX5_measure : ByteArray := prog_7_method_2_code
def yX5_measure : MethodName := ⟨RX5, "measure", "()V"⟩
abbrev cX5_extendOver : ByteArray := prog_7_method_3_code
def yX5_extendOver : MethodName := ⟨RX5, "extendOver", "(II)V"⟩
abbrev cX5_between : ByteArray := prog_7_method_4_code
def yX5_between : MethodName := ⟨RX5, "between", "(II)I"⟩
abbrev cX5_joined : ByteArray := prog_7_method_5_code
def yX5_joined : MethodName := ⟨RX5, "joined", "(II)Z"⟩
abbrev cX5_edgeOf : ByteArray := prog_7_method_6_code
def yX5_edgeOf : MethodName := ⟨RX5, "edgeOf", "(II)I"⟩
abbrev cX5_smallestJoined : ByteArray := prog_7_method_7_code
def yX5_smallestJoined : MethodName := ⟨RX5, "smallestJoined", "(I)I"⟩
abbrev cX5_vertexOnPath : ByteArray := prog_7_method_8_code
def yX5_vertexOnPath : MethodName := ⟨RX5, "vertexOnPath", "(III)I"⟩
abbrev cX5_stepToward : ByteArray := prog_7_method_9_code
def yX5_stepToward : MethodName := ⟨RX5, "stepToward", "(II)I"⟩
abbrev cX5_greatestFrom : ByteArray := prog_7_method_10_code
def yX5_greatestFrom : MethodName := ⟨RX5, "greatestFrom", "(I)I"⟩
abbrev cX5_firstFarthest : ByteArray := prog_7_method_11_code
def yX5_firstFarthest : MethodName := ⟨RX5, "firstFarthest", "(I)I"⟩
abbrev cX5_widthAround : ByteArray := prog_7_method_12_code
def yX5_widthAround : MethodName := ⟨RX5, "widthAround", "(I)I"⟩
abbrev cX5_firstWideEnd : ByteArray := prog_7_method_13_code
def yX5_firstWideEnd : MethodName := ⟨RX5, "firstWideEnd", "(I)I"⟩
abbrev cX5_middleOf : ByteArray := prog_7_method_14_code
def yX5_middleOf : MethodName := ⟨RX5, "middleOf", "(I)I"⟩
abbrev cX5_priceOf : ByteArray := prog_7_method_15_code
def yX5_priceOf : MethodName := ⟨RX5, "priceOf", "(I)I"⟩
abbrev cX5_cheapestOf : ByteArray := prog_7_method_16_code
def yX5_cheapestOf : MethodName := ⟨RX5, "cheapestOf", "(I)I"⟩
abbrev cX5_meetingOf : ByteArray := prog_7_method_17_code
def yX5_meetingOf : MethodName := ⟨RX5, "meetingOf", "(III)I"⟩
abbrev cX5_onPath : ByteArray := prog_7_method_18_code
def yX5_onPath : MethodName := ⟨RX5, "onPath", "(III)Z"⟩
abbrev cX5_goesOver : ByteArray := prog_7_method_19_code
def yX5_goesOver : MethodName := ⟨RX5, "goesOver", "(IIII)Z"⟩
abbrev cX5_evenestEdge : ByteArray := prog_7_method_20_code
def yX5_evenestEdge : MethodName := ⟨RX5, "evenestEdge", "(I)I"⟩
abbrev cX5_heavierPart : ByteArray := prog_7_method_21_code
def yX5_heavierPart : MethodName := ⟨RX5, "heavierPart", "(II)I"⟩
abbrev cX5_reachOf : ByteArray := prog_7_method_22_code
def yX5_reachOf : MethodName := ⟨RX5, "reachOf", "(II)J"⟩
abbrev cX5_chanceOfPath : ByteArray := prog_7_method_23_code
def yX5_chanceOfPath : MethodName := ⟨RX5, "chanceOfPath", "(III)J"⟩
def RX6 : String := "WeightedForest"
def TX6 : u_T := fun k => match k with
  | 0 => ("WeightedForest", "forest", "LWeightedForest$Forest;", true)
  | 1 => ("WeightedForest", "survey", "LWeightedForest$Survey;", true)
  | 2 => ("WeightedForest", "trial", "LWeightedForest$Forest;", true)
  | 3 => ("WeightedForest", "trialSurvey", "LWeightedForest$Survey;", true)
  | 4 => ("WeightedForest", "contraction", "LWeightedForest$Contraction;", true)
  | 5 => ("WeightedForest", "text", "LWeightedForest$SetupText;", true)
  | 6 => ("WeightedForest", "history", "LWeightedForest$History;", true)
  | 7 => ("WeightedForest", "observations", "LWeightedForest$Observations;", true)
  | 8 => ("WeightedForest", "slots", "[LWeightedForest$Forest;", true)
  | _ => ("WeightedForest", "filled", "[Z", true)
def tyX6 : Nat → FieldType := fun k => match k with
  | 0 => .object "WeightedForest$Forest"
  | 1 => .object "WeightedForest$Survey"
  | 2 => .object "WeightedForest$Forest"
  | 3 => .object "WeightedForest$Survey"
  | 4 => .object "WeightedForest$Contraction"
  | 5 => .object "WeightedForest$SetupText"
  | 6 => .object "WeightedForest$History"
  | 7 => .object "WeightedForest$Observations"
  | 8 => .array (.object "WeightedForest$Forest")
  | _ => .array .boolean
abbrev wsX60 : List Cond := u_ws RX6 TX6 10
theorem nmX6 : ∀ a, a < 10 → ∀ b, b < 10 → a ≠ b → (TX6 a).2.1 ≠ (TX6 b).2.1 := by decide +kernel
theorem tyX6_ok : ∀ k, k < 10 → parseFieldDescriptor (TX6 k).2.2.1 = some (tyX6 k) := by decide +kernel
abbrev cX6_init : ByteArray := prog_1_method_1_code
def yX6_init : MethodName := ⟨RX6, "<init>", "()V"⟩
abbrev cX6_append : ByteArray := prog_1_method_2_code
def yX6_append : MethodName := ⟨RX6, "append", "(I)I"⟩
abbrev cX6_clearText : ByteArray := prog_1_method_3_code
def yX6_clearText : MethodName := ⟨RX6, "clearText", "()I"⟩
abbrev cX6_errorPosition : ByteArray := prog_1_method_4_code
def yX6_errorPosition : MethodName := ⟨RX6, "errorPosition", "()I"⟩
abbrev cX6_load : ByteArray := prog_1_method_5_code
def yX6_load : MethodName := ⟨RX6, "load", "()I"⟩
abbrev cX6_emptySlots : ByteArray := prog_1_method_6_code
def yX6_emptySlots : MethodName := ⟨RX6, "emptySlots", "()V"⟩
abbrev cX6_vertexWeight : ByteArray := prog_1_method_7_code
def yX6_vertexWeight : MethodName := ⟨RX6, "vertexWeight", "(I)I"⟩
abbrev cX6_edgeWeight : ByteArray := prog_1_method_8_code
def yX6_edgeWeight : MethodName := ⟨RX6, "edgeWeight", "(II)I"⟩
abbrev cX6_treeOf : ByteArray := prog_1_method_9_code
def yX6_treeOf : MethodName := ⟨RX6, "treeOf", "(I)I"⟩
abbrev cX6_link : ByteArray := prog_1_method_10_code
def yX6_link : MethodName := ⟨RX6, "link", "(III)I"⟩
abbrev cX6_cut : ByteArray := prog_1_method_11_code
def yX6_cut : MethodName := ⟨RX6, "cut", "(II)I"⟩
abbrev cX6_setEdgeWeight : ByteArray := prog_1_method_12_code
def yX6_setEdgeWeight : MethodName := ⟨RX6, "setEdgeWeight", "(III)I"⟩
abbrev cX6_setVertexWeight : ByteArray := prog_1_method_13_code
def yX6_setVertexWeight : MethodName := ⟨RX6, "setVertexWeight", "(II)I"⟩
abbrev cX6_undo : ByteArray := prog_1_method_14_code
def yX6_undo : MethodName := ⟨RX6, "undo", "()I"⟩
abbrev cX6_linkError : ByteArray := prog_1_method_15_code
def yX6_linkError : MethodName := ⟨RX6, "linkError", "(LWeightedForest$Forest;LWeightedForest$Survey;III)I"⟩
abbrev cX6_cutError : ByteArray := prog_1_method_16_code
def yX6_cutError : MethodName := ⟨RX6, "cutError", "(LWeightedForest$Forest;II)I"⟩
abbrev cX6_distance : ByteArray := prog_1_method_17_code
def yX6_distance : MethodName := ⟨RX6, "distance", "(II)I"⟩
abbrev cX6_pathVertex : ByteArray := prog_1_method_18_code
def yX6_pathVertex : MethodName := ⟨RX6, "pathVertex", "(III)I"⟩
abbrev cX6_eccentricity : ByteArray := prog_1_method_19_code
def yX6_eccentricity : MethodName := ⟨RX6, "eccentricity", "(I)I"⟩
abbrev cX6_diameter : ByteArray := prog_1_method_20_code
def yX6_diameter : MethodName := ⟨RX6, "diameter", "(I)I"⟩
abbrev cX6_diameterEnd : ByteArray := prog_1_method_21_code
def yX6_diameterEnd : MethodName := ⟨RX6, "diameterEnd", "(II)I"⟩
abbrev cX6_centre : ByteArray := prog_1_method_22_code
def yX6_centre : MethodName := ⟨RX6, "centre", "(I)I"⟩
abbrev cX6_median : ByteArray := prog_1_method_23_code
def yX6_median : MethodName := ⟨RX6, "median", "(I)I"⟩
abbrev cX6_cost : ByteArray := prog_1_method_24_code
def yX6_cost : MethodName := ⟨RX6, "cost", "(I)I"⟩
abbrev cX6_meeting : ByteArray := prog_1_method_25_code
def yX6_meeting : MethodName := ⟨RX6, "meeting", "(III)I"⟩
abbrev cX6_rounds : ByteArray := prog_1_method_26_code
def yX6_rounds : MethodName := ⟨RX6, "rounds", "(I)I"⟩
abbrev cX6_removalRound : ByteArray := prog_1_method_27_code
def yX6_removalRound : MethodName := ⟨RX6, "removalRound", "(I)I"⟩
abbrev cX6_survivor : ByteArray := prog_1_method_28_code
def yX6_survivor : MethodName := ⟨RX6, "survivor", "(I)I"⟩
abbrev cX6_balancedCut : ByteArray := prog_1_method_29_code
def yX6_balancedCut : MethodName := ⟨RX6, "balancedCut", "(I)I"⟩
abbrev cX6_expectedReach : ByteArray := prog_1_method_30_code
def yX6_expectedReach : MethodName := ⟨RX6, "expectedReach", "(II)J"⟩
abbrev cX6_observe : ByteArray := prog_1_method_31_code
def yX6_observe : MethodName := ⟨RX6, "observe", "(III)I"⟩
abbrev cX6_possibleWeights : ByteArray := prog_1_method_32_code
def yX6_possibleWeights : MethodName := ⟨RX6, "possibleWeights", "(II)I"⟩
abbrev cX6_runScript : ByteArray := prog_1_method_33_code
def yX6_runScript : MethodName := ⟨RX6, "runScript", "(IJ)I"⟩
abbrev cX6_obeys : ByteArray := prog_1_method_34_code
def yX6_obeys : MethodName := ⟨RX6, "obeys", "(I)Z"⟩
abbrev cX6_triesLink : ByteArray := prog_1_method_35_code
def yX6_triesLink : MethodName := ⟨RX6, "triesLink", "(II)Z"⟩
abbrev cX6_triesCut : ByteArray := prog_1_method_36_code
def yX6_triesCut : MethodName := ⟨RX6, "triesCut", "(II)Z"⟩
abbrev cX6_joinedInTrial : ByteArray := prog_1_method_37_code
def yX6_joinedInTrial : MethodName := ⟨RX6, "joinedInTrial", "(II)Z"⟩
abbrev cX6_leavesEarlier : ByteArray := prog_1_method_38_code
def yX6_leavesEarlier : MethodName := ⟨RX6, "leavesEarlier", "(II)Z"⟩
abbrev cX6_randomChanges : ByteArray := prog_1_method_39_code
def yX6_randomChanges : MethodName := ⟨RX6, "randomChanges", "(JI)I"⟩
abbrev cX6_changeTrial : ByteArray := prog_1_method_40_code
def yX6_changeTrial : MethodName := ⟨RX6, "changeTrial", "(I)V"⟩
abbrev cX6_save : ByteArray := prog_1_method_41_code
def yX6_save : MethodName := ⟨RX6, "save", "(I)I"⟩
abbrev cX6_restore : ByteArray := prog_1_method_42_code
def yX6_restore : MethodName := ⟨RX6, "restore", "(I)I"⟩
def RX7 : String := "WeightedForestModel"
def TX7 : u_T := fun k => match k with
  | _ => ("", "", "", false)
def tyX7 : Nat → FieldType := fun k => match k with
  | _ => .int
abbrev wsX70 : List Cond := u_ws RX7 TX7 0
theorem nmX7 : ∀ a, a < 0 → ∀ b, b < 0 → a ≠ b → (TX7 a).2.1 ≠ (TX7 b).2.1 := by decide +kernel
theorem tyX7_ok : ∀ k, k < 0 → parseFieldDescriptor (TX7 k).2.2.1 = some (tyX7 k) := by decide +kernel
def RJx145de : String := "java/io/Serializable"
def TJx145de : u_T := fun k => match k with
  | _ => ("", "", "", false)
def tyJx145de : Nat → FieldType := fun k => match k with
  | _ => .int
abbrev wsJx145de0 : List Cond := u_ws RJx145de TJx145de 0
theorem nmJx145de : ∀ a, a < 0 → ∀ b, b < 0 → a ≠ b → (TJx145de a).2.1 ≠ (TJx145de b).2.1 := by decide +kernel
theorem tyJx145de_ok : ∀ k, k < 0 → parseFieldDescriptor (TJx145de k).2.2.1 = some (tyJx145de k) := by decide +kernel
def RJx9f9b0 : String := "java/lang/CharSequence"
def TJx9f9b0 : u_T := fun k => match k with
  | _ => ("", "", "", false)
def tyJx9f9b0 : Nat → FieldType := fun k => match k with
  | _ => .int
abbrev wsJx9f9b00 : List Cond := u_ws RJx9f9b0 TJx9f9b0 0
theorem nmJx9f9b0 : ∀ a, a < 0 → ∀ b, b < 0 → a ≠ b → (TJx9f9b0 a).2.1 ≠ (TJx9f9b0 b).2.1 := by decide +kernel
theorem tyJx9f9b0_ok : ∀ k, k < 0 → parseFieldDescriptor (TJx9f9b0 k).2.2.1 = some (tyJx9f9b0 k) := by decide +kernel
def RJxb160c : String := "java/lang/Comparable"
def TJxb160c : u_T := fun k => match k with
  | _ => ("", "", "", false)
def tyJxb160c : Nat → FieldType := fun k => match k with
  | _ => .int
abbrev wsJxb160c0 : List Cond := u_ws RJxb160c TJxb160c 0
theorem nmJxb160c : ∀ a, a < 0 → ∀ b, b < 0 → a ≠ b → (TJxb160c a).2.1 ≠ (TJxb160c b).2.1 := by decide +kernel
theorem tyJxb160c_ok : ∀ k, k < 0 → parseFieldDescriptor (TJxb160c k).2.2.1 = some (tyJxb160c k) := by decide +kernel
def RJ9 : String := "java/lang/Math"
def TJ9 : u_T := fun k => match k with
  | _ => ("", "", "", false)
def tyJ9 : Nat → FieldType := fun k => match k with
  | _ => .int
abbrev wsJ90 : List Cond := u_ws RJ9 TJ9 0
theorem nmJ9 : ∀ a, a < 0 → ∀ b, b < 0 → a ≠ b → (TJ9 a).2.1 ≠ (TJ9 b).2.1 := by decide +kernel
theorem tyJ9_ok : ∀ k, k < 0 → parseFieldDescriptor (TJ9 k).2.2.1 = some (tyJ9 k) := by decide +kernel
abbrev cJ9_max_7cf53 : ByteArray := prog_10_method_65_code
def yJ9_max_7cf53 : MethodName := ⟨RJ9, "max", "(II)I"⟩
abbrev cJ9_min_7cf53 : ByteArray := prog_10_method_69_code
def yJ9_min_7cf53 : MethodName := ⟨RJ9, "min", "(II)I"⟩
def RJ0 : String := "java/lang/String"
def TJ0 : u_T := fun k => match k with
  | _ => ("", "", "", false)
def tyJ0 : Nat → FieldType := fun k => match k with
  | _ => .int
abbrev wsJ00 : List Cond := u_ws RJ0 TJ0 0
theorem nmJ0 : ∀ a, a < 0 → ∀ b, b < 0 → a ≠ b → (TJ0 a).2.1 ≠ (TJ0 b).2.1 := by decide +kernel
theorem tyJ0_ok : ∀ k, k < 0 → parseFieldDescriptor (TJ0 k).2.2.1 = some (tyJ0 k) := by decide +kernel
abbrev cJ0_charAt_5068e : ByteArray := prog_11_method_56_code
def yJ0_charAt_5068e : MethodName := ⟨RJ0, "charAt", "(I)C"⟩
abbrev cJ0_isLatin1_aae02 : ByteArray := prog_11_method_154_code
def yJ0_isLatin1_aae02 : MethodName := ⟨RJ0, "isLatin1", "()Z"⟩
abbrev cJ0_checkIndex_df160 : ByteArray := prog_11_method_155_code
def yJ0_checkIndex_df160 : MethodName := ⟨RJ0, "checkIndex", "(II)V"⟩
def RJ1 : String := "java/lang/StringLatin1"
def TJ1 : u_T := fun k => match k with
  | _ => ("", "", "", false)
def tyJ1 : Nat → FieldType := fun k => match k with
  | _ => .int
abbrev wsJ10 : List Cond := u_ws RJ1 TJ1 0
theorem nmJ1 : ∀ a, a < 0 → ∀ b, b < 0 → a ≠ b → (TJ1 a).2.1 ≠ (TJ1 b).2.1 := by decide +kernel
theorem tyJ1_ok : ∀ k, k < 0 → parseFieldDescriptor (TJ1 k).2.2.1 = some (tyJ1 k) := by decide +kernel
abbrev cJ1_charAt_3b067 : ByteArray := prog_12_method_2_code
def yJ1_charAt_3b067 : MethodName := ⟨RJ1, "charAt", "([BI)C"⟩
def RJ2 : String := "java/lang/StringUTF16"
def TJ2 : u_T := fun k => match k with
  | _ => ("", "", "", false)
def tyJ2 : Nat → FieldType := fun k => match k with
  | _ => .int
abbrev wsJ20 : List Cond := u_ws RJ2 TJ2 0
theorem nmJ2 : ∀ a, a < 0 → ∀ b, b < 0 → a ≠ b → (TJ2 a).2.1 ≠ (TJ2 b).2.1 := by decide +kernel
theorem tyJ2_ok : ∀ k, k < 0 → parseFieldDescriptor (TJ2 k).2.2.1 = some (tyJ2 k) := by decide +kernel
abbrev cJ2_getChar_3b067 : ByteArray := prog_13_method_5_code
def yJ2_getChar_3b067 : MethodName := ⟨RJ2, "getChar", "([BI)C"⟩
abbrev cJ2_length_9d52b : ByteArray := prog_13_method_6_code
def yJ2_length_9d52b : MethodName := ⟨RJ2, "length", "([B)I"⟩
abbrev cJ2_charAt_3b067 : ByteArray := prog_13_method_83_code
def yJ2_charAt_3b067 : MethodName := ⟨RJ2, "charAt", "([BI)C"⟩
abbrev cJ2_checkIndex_2214a : ByteArray := prog_13_method_91_code
def yJ2_checkIndex_2214a : MethodName := ⟨RJ2, "checkIndex", "(I[B)V"⟩
def RJ10 : String := "java/lang/System"
def TJ10 : u_T := fun k => match k with
  | _ => ("", "", "", false)
def tyJ10 : Nat → FieldType := fun k => match k with
  | _ => .int
abbrev wsJ100 : List Cond := u_ws RJ10 TJ10 0
theorem nmJ10 : ∀ a, a < 0 → ∀ b, b < 0 → a ≠ b → (TJ10 a).2.1 ≠ (TJ10 b).2.1 := by decide +kernel
theorem tyJ10_ok : ∀ k, k < 0 → parseFieldDescriptor (TJ10 k).2.2.1 = some (tyJ10 k) := by decide +kernel
def RJxfd54e : String := "java/lang/constant/Constable"
def TJxfd54e : u_T := fun k => match k with
  | _ => ("", "", "", false)
def tyJxfd54e : Nat → FieldType := fun k => match k with
  | _ => .int
abbrev wsJxfd54e0 : List Cond := u_ws RJxfd54e TJxfd54e 0
theorem nmJxfd54e : ∀ a, a < 0 → ∀ b, b < 0 → a ≠ b → (TJxfd54e a).2.1 ≠ (TJxfd54e b).2.1 := by decide +kernel
theorem tyJxfd54e_ok : ∀ k, k < 0 → parseFieldDescriptor (TJxfd54e k).2.2.1 = some (tyJxfd54e k) := by decide +kernel
def RJx3cf43 : String := "java/lang/constant/ConstantDesc"
def TJx3cf43 : u_T := fun k => match k with
  | _ => ("", "", "", false)
def tyJx3cf43 : Nat → FieldType := fun k => match k with
  | _ => .int
abbrev wsJx3cf430 : List Cond := u_ws RJx3cf43 TJx3cf43 0
theorem nmJx3cf43 : ∀ a, a < 0 → ∀ b, b < 0 → a ≠ b → (TJx3cf43 a).2.1 ≠ (TJx3cf43 b).2.1 := by decide +kernel
theorem tyJx3cf43_ok : ∀ k, k < 0 → parseFieldDescriptor (TJx3cf43 k).2.2.1 = some (tyJx3cf43 k) := by decide +kernel
def RJ7 : String := "java/util/Arrays"
def TJ7 : u_T := fun k => match k with
  | _ => ("", "", "", false)
def tyJ7 : Nat → FieldType := fun k => match k with
  | _ => .int
abbrev wsJ70 : List Cond := u_ws RJ7 TJ7 0
theorem nmJ7 : ∀ a, a < 0 → ∀ b, b < 0 → a ≠ b → (TJ7 a).2.1 ≠ (TJ7 b).2.1 := by decide +kernel
theorem tyJ7_ok : ∀ k, k < 0 → parseFieldDescriptor (TJ7 k).2.2.1 = some (tyJ7 k) := by decide +kernel
abbrev cJ7_fill_53178 : ByteArray := prog_15_method_103_code
def yJ7_fill_53178 : MethodName := ⟨RJ7, "fill", "([II)V"⟩
def RJ3 : String := "jdk/internal/util/Preconditions"
def TJ3 : u_T := fun k => match k with
  | _ => ("", "", "", false)
def tyJ3 : Nat → FieldType := fun k => match k with
  | _ => .int
abbrev wsJ30 : List Cond := u_ws RJ3 TJ3 0
theorem nmJ3 : ∀ a, a < 0 → ∀ b, b < 0 → a ≠ b → (TJ3 a).2.1 ≠ (TJ3 b).2.1 := by decide +kernel
theorem tyJ3_ok : ∀ k, k < 0 → parseFieldDescriptor (TJ3 k).2.2.1 = some (tyJ3 k) := by decide +kernel
abbrev cJ3_checkIndex_8e157 : ByteArray := prog_16_method_11_code
def yJ3_checkIndex_8e157 : MethodName := ⟨RJ3, "checkIndex", "(IILjava/util/function/BiFunction;)I"⟩
def RL : String := "WeightedForestLaw"
abbrev cL_cell : ByteArray := method_2_code
def yL_cell : MethodName := ⟨RL, "cell", "([II)I"⟩
abbrev cL_vertices : ByteArray := method_3_code
def yL_vertices : MethodName := ⟨RL, "vertices", "(LWeightedForest;)I"⟩
abbrev cL_errors : ByteArray := method_4_code
def yL_errors : MethodName := ⟨RL, "errors", "(LWeightedForest;)Z"⟩
abbrev cL_two : ByteArray := method_5_code
def yL_two : MethodName := ⟨RL, "two", "(LWeightedForest;I)I"⟩
abbrev cL_load : ByteArray := method_6_code
def yL_load : MethodName := ⟨RL, "load", "(LWeightedForest;II)I"⟩
abbrev cL_act : ByteArray := method_7_code
def yL_act : MethodName := ⟨RL, "act", "(LWeightedForest;II)I"⟩
abbrev cL_now : ByteArray := method_8_code
def yL_now : MethodName := ⟨RL, "now", "(LWeightedForest;)J"⟩
abbrev cL_alike : ByteArray := method_9_code
def yL_alike : MethodName := ⟨RL, "alike", "(LWeightedForest;LWeightedForest;)Z"⟩
abbrev cL_built : ByteArray := method_10_code
def yL_built : MethodName := ⟨RL, "built", "(LWeightedForest;I)Z"⟩
abbrev cL_ahead : ByteArray := method_11_code
def yL_ahead : MethodName := ⟨RL, "ahead", "(LWeightedForest;I)Z"⟩
abbrev cL_law : ByteArray := code
def yL_law : MethodName := ⟨RL, "law", "([I)Z"⟩
abbrev vwCl : List vw_C := [(RX0, TX0, 7), (RX1, TX1, 3), (RX2, TX2, 3), (RX3, TX3, 5), (RX4, TX4, 4), (RX5, TX5, 3), (RX6, TX6, 10)]
end
section
theorem dX0_init_0 : decode cX0_init 0 = .ok (.aload_n 0, 1) := by decide +kernel
theorem dX0_init_1 : decode cX0_init 1 = .ok (.invokespecial 3, 3) := by decide +kernel
theorem dX0_init_4 : decode cX0_init 4 = .ok (.aload_n 0, 1) := by decide +kernel
theorem dX0_init_5 : decode cX0_init 5 = .ok (.bipush 12, 2) := by decide +kernel
theorem dX0_init_7 : decode cX0_init 7 = .ok (.newarray .boolean, 2) := by decide +kernel
theorem dX0_init_9 : decode cX0_init 9 = .ok (.putfield 9, 3) := by decide +kernel
theorem dX0_init_12 : decode cX0_init 12 = .ok (.aload_n 0, 1) := by decide +kernel
theorem dX0_init_13 : decode cX0_init 13 = .ok (.bipush 12, 2) := by decide +kernel
theorem dX0_init_15 : decode cX0_init 15 = .ok (.newarray .boolean, 2) := by decide +kernel
theorem dX0_init_17 : decode cX0_init 17 = .ok (.putfield 15, 3) := by decide +kernel
theorem dX0_init_20 : decode cX0_init 20 = .ok (.aload_n 0, 1) := by decide +kernel
theorem dX0_init_21 : decode cX0_init 21 = .ok (.bipush 12, 2) := by decide +kernel
theorem dX0_init_23 : decode cX0_init 23 = .ok (.newarray .int, 2) := by decide +kernel
theorem dX0_init_25 : decode cX0_init 25 = .ok (.putfield 18, 3) := by decide +kernel
theorem dX0_init_28 : decode cX0_init 28 = .ok (.aload_n 0, 1) := by decide +kernel
theorem dX0_init_29 : decode cX0_init 29 = .ok (.bipush 12, 2) := by decide +kernel
theorem dX0_init_31 : decode cX0_init 31 = .ok (.bipush 12, 2) := by decide +kernel
theorem dX0_init_33 : decode cX0_init 33 = .ok (.multianewarray 22 2, 4) := by decide +kernel
theorem dX0_init_37 : decode cX0_init 37 = .ok (.putfield 24, 3) := by decide +kernel
theorem dX0_init_40 : decode cX0_init 40 = .ok (.return_, 1) := by decide +kernel
theorem dX0_contract_0 : decode cX0_contract 0 = .ok (.aload_n 0, 1) := by decide +kernel
theorem dX0_contract_1 : decode cX0_contract 1 = .ok (.aload_n 1, 1) := by decide +kernel
theorem dX0_contract_2 : decode cX0_contract 2 = .ok (.invokevirtual 27, 3) := by decide +kernel
theorem dX0_contract_5 : decode cX0_contract 5 = .ok (.aload_n 0, 1) := by decide +kernel
theorem dX0_contract_6 : decode cX0_contract 6 = .ok (.iload_n 2, 1) := by decide +kernel
theorem dX0_contract_7 : decode cX0_contract 7 = .ok (.invokevirtual 31, 3) := by decide +kernel
theorem dX0_contract_10 : decode cX0_contract 10 = .ok (.aload_n 0, 1) := by decide +kernel
theorem dX0_contract_11 : decode cX0_contract 11 = .ok (.iconst 0, 1) := by decide +kernel
theorem dX0_contract_12 : decode cX0_contract 12 = .ok (.putfield 35, 3) := by decide +kernel
theorem dX0_contract_15 : decode cX0_contract 15 = .ok (.aload_n 0, 1) := by decide +kernel
theorem dX0_contract_16 : decode cX0_contract 16 = .ok (.getfield 39, 3) := by decide +kernel
theorem dX0_contract_19 : decode cX0_contract 19 = .ok (.iconst 1, 1) := by decide +kernel
theorem dX0_contract_20 : decode cX0_contract 20 = .ok (.if_icmp .le 33, 3) := by decide +kernel
theorem dX0_contract_23 : decode cX0_contract 23 = .ok (.aload_n 0, 1) := by decide +kernel
theorem dX0_contract_24 : decode cX0_contract 24 = .ok (.getfield 35, 3) := by decide +kernel
theorem dX0_contract_27 : decode cX0_contract 27 = .ok (.bipush 12, 2) := by decide +kernel
theorem dX0_contract_29 : decode cX0_contract 29 = .ok (.if_icmp .ge 24, 3) := by decide +kernel
theorem dX0_contract_32 : decode cX0_contract 32 = .ok (.aload_n 0, 1) := by decide +kernel
theorem dX0_contract_33 : decode cX0_contract 33 = .ok (.dup, 1) := by decide +kernel
theorem dX0_contract_34 : decode cX0_contract 34 = .ok (.getfield 35, 3) := by decide +kernel
theorem dX0_contract_37 : decode cX0_contract 37 = .ok (.iconst 1, 1) := by decide +kernel
theorem dX0_contract_38 : decode cX0_contract 38 = .ok (.iadd, 1) := by decide +kernel
theorem dX0_contract_39 : decode cX0_contract 39 = .ok (.putfield 35, 3) := by decide +kernel
theorem dX0_contract_42 : decode cX0_contract 42 = .ok (.aload_n 0, 1) := by decide +kernel
theorem dX0_contract_43 : decode cX0_contract 43 = .ok (.invokevirtual 42, 3) := by decide +kernel
theorem dX0_contract_46 : decode cX0_contract 46 = .ok (.aload_n 0, 1) := by decide +kernel
theorem dX0_contract_47 : decode cX0_contract 47 = .ok (.invokevirtual 45, 3) := by decide +kernel
theorem dX0_contract_50 : decode cX0_contract 50 = .ok (.goto (-35), 3) := by decide +kernel
theorem dX0_contract_53 : decode cX0_contract 53 = .ok (.return_, 1) := by decide +kernel
theorem dX0_roundCount_0 : decode cX0_roundCount 0 = .ok (.aload_n 0, 1) := by decide +kernel
theorem dX0_roundCount_1 : decode cX0_roundCount 1 = .ok (.getfield 35, 3) := by decide +kernel
theorem dX0_roundCount_4 : decode cX0_roundCount 4 = .ok (.ireturn, 1) := by decide +kernel
theorem dX0_roundOf_0 : decode cX0_roundOf 0 = .ok (.aload_n 0, 1) := by decide +kernel
theorem dX0_roundOf_1 : decode cX0_roundOf 1 = .ok (.iload_n 1, 1) := by decide +kernel
theorem dX0_roundOf_2 : decode cX0_roundOf 2 = .ok (.invokevirtual 48, 3) := by decide +kernel
theorem dX0_roundOf_5 : decode cX0_roundOf 5 = .ok (.ifCond .eq 12, 3) := by decide +kernel
theorem dX0_roundOf_8 : decode cX0_roundOf 8 = .ok (.aload_n 0, 1) := by decide +kernel
theorem dX0_roundOf_9 : decode cX0_roundOf 9 = .ok (.getfield 18, 3) := by decide +kernel
theorem dX0_roundOf_12 : decode cX0_roundOf 12 = .ok (.iload_n 1, 1) := by decide +kernel
theorem dX0_roundOf_13 : decode cX0_roundOf 13 = .ok (.iaload, 1) := by decide +kernel
theorem dX0_roundOf_14 : decode cX0_roundOf 14 = .ok (.goto 5, 3) := by decide +kernel
theorem dX0_roundOf_17 : decode cX0_roundOf 17 = .ok (.bipush (-9), 2) := by decide +kernel
theorem dX0_roundOf_19 : decode cX0_roundOf 19 = .ok (.ireturn, 1) := by decide +kernel
theorem dX0_lastVertex_0 : decode cX0_lastVertex 0 = .ok (.iconst 0, 1) := by decide +kernel
theorem dX0_lastVertex_1 : decode cX0_lastVertex 1 = .ok (.istore_n 1, 1) := by decide +kernel
theorem dX0_lastVertex_2 : decode cX0_lastVertex 2 = .ok (.iload_n 1, 1) := by decide +kernel
theorem dX0_lastVertex_3 : decode cX0_lastVertex 3 = .ok (.aload_n 0, 1) := by decide +kernel
theorem dX0_lastVertex_4 : decode cX0_lastVertex 4 = .ok (.getfield 52, 3) := by decide +kernel
theorem dX0_lastVertex_7 : decode cX0_lastVertex 7 = .ok (.if_icmp .ge 20, 3) := by decide +kernel
theorem dX0_lastVertex_10 : decode cX0_lastVertex 10 = .ok (.aload_n 0, 1) := by decide +kernel
theorem dX0_lastVertex_11 : decode cX0_lastVertex 11 = .ok (.getfield 9, 3) := by decide +kernel
theorem dX0_lastVertex_14 : decode cX0_lastVertex 14 = .ok (.iload_n 1, 1) := by decide +kernel
theorem dX0_lastVertex_15 : decode cX0_lastVertex 15 = .ok (.baload, 1) := by decide +kernel
theorem dX0_lastVertex_16 : decode cX0_lastVertex 16 = .ok (.ifCond .eq 5, 3) := by decide +kernel
theorem dX0_lastVertex_19 : decode cX0_lastVertex 19 = .ok (.iload_n 1, 1) := by decide +kernel
theorem dX0_lastVertex_20 : decode cX0_lastVertex 20 = .ok (.ireturn, 1) := by decide +kernel
theorem dX0_lastVertex_21 : decode cX0_lastVertex 21 = .ok (.iinc 1 1, 3) := by decide +kernel
theorem dX0_lastVertex_24 : decode cX0_lastVertex 24 = .ok (.goto (-22), 3) := by decide +kernel
theorem dX0_lastVertex_27 : decode cX0_lastVertex 27 = .ok (.bipush (-9), 2) := by decide +kernel
theorem dX0_lastVertex_29 : decode cX0_lastVertex 29 = .ok (.ireturn, 1) := by decide +kernel
theorem dX0_isVertex_0 : decode cX0_isVertex 0 = .ok (.iload_n 1, 1) := by decide +kernel
theorem dX0_isVertex_1 : decode cX0_isVertex 1 = .ok (.ifCond .lt 15, 3) := by decide +kernel
theorem dX0_isVertex_4 : decode cX0_isVertex 4 = .ok (.iload_n 1, 1) := by decide +kernel
theorem dX0_isVertex_5 : decode cX0_isVertex 5 = .ok (.aload_n 0, 1) := by decide +kernel
theorem dX0_isVertex_6 : decode cX0_isVertex 6 = .ok (.getfield 52, 3) := by decide +kernel
theorem dX0_isVertex_9 : decode cX0_isVertex 9 = .ok (.if_icmp .ge 7, 3) := by decide +kernel
theorem dX0_isVertex_12 : decode cX0_isVertex 12 = .ok (.iconst 1, 1) := by decide +kernel
theorem dX0_isVertex_13 : decode cX0_isVertex 13 = .ok (.goto 4, 3) := by decide +kernel
theorem dX0_isVertex_16 : decode cX0_isVertex 16 = .ok (.iconst 0, 1) := by decide +kernel
theorem dX0_isVertex_17 : decode cX0_isVertex 17 = .ok (.ireturn, 1) := by decide +kernel
theorem dX0_copyEdges_0 : decode cX0_copyEdges 0 = .ok (.aload_n 0, 1) := by decide +kernel
theorem dX0_copyEdges_1 : decode cX0_copyEdges 1 = .ok (.aload_n 1, 1) := by decide +kernel
theorem dX0_copyEdges_2 : decode cX0_copyEdges 2 = .ok (.invokevirtual 55, 3) := by decide +kernel
theorem dX0_copyEdges_5 : decode cX0_copyEdges 5 = .ok (.putfield 52, 3) := by decide +kernel
theorem dX0_copyEdges_8 : decode cX0_copyEdges 8 = .ok (.iconst 0, 1) := by decide +kernel
theorem dX0_copyEdges_9 : decode cX0_copyEdges 9 = .ok (.istore_n 2, 1) := by decide +kernel
theorem dX0_copyEdges_10 : decode cX0_copyEdges 10 = .ok (.iload_n 2, 1) := by decide +kernel
theorem dX0_copyEdges_11 : decode cX0_copyEdges 11 = .ok (.aload_n 0, 1) := by decide +kernel
theorem dX0_copyEdges_12 : decode cX0_copyEdges 12 = .ok (.getfield 52, 3) := by decide +kernel
theorem dX0_copyEdges_15 : decode cX0_copyEdges 15 = .ok (.if_icmp .ge 47, 3) := by decide +kernel
theorem dX0_copyEdges_18 : decode cX0_copyEdges 18 = .ok (.iconst 0, 1) := by decide +kernel
theorem dX0_copyEdges_19 : decode cX0_copyEdges 19 = .ok (.istore_n 3, 1) := by decide +kernel
theorem dX0_copyEdges_20 : decode cX0_copyEdges 20 = .ok (.iload_n 3, 1) := by decide +kernel
theorem dX0_copyEdges_21 : decode cX0_copyEdges 21 = .ok (.aload_n 0, 1) := by decide +kernel
theorem dX0_copyEdges_22 : decode cX0_copyEdges 22 = .ok (.getfield 52, 3) := by decide +kernel
theorem dX0_copyEdges_25 : decode cX0_copyEdges 25 = .ok (.if_icmp .ge 31, 3) := by decide +kernel
theorem dX0_copyEdges_28 : decode cX0_copyEdges 28 = .ok (.aload_n 0, 1) := by decide +kernel
theorem dX0_copyEdges_29 : decode cX0_copyEdges 29 = .ok (.getfield 24, 3) := by decide +kernel
theorem dX0_copyEdges_32 : decode cX0_copyEdges 32 = .ok (.iload_n 2, 1) := by decide +kernel
theorem dX0_copyEdges_33 : decode cX0_copyEdges 33 = .ok (.aaload, 1) := by decide +kernel
theorem dX0_copyEdges_34 : decode cX0_copyEdges 34 = .ok (.iload_n 3, 1) := by decide +kernel
theorem dX0_copyEdges_35 : decode cX0_copyEdges 35 = .ok (.aload_n 1, 1) := by decide +kernel
theorem dX0_copyEdges_36 : decode cX0_copyEdges 36 = .ok (.iload_n 2, 1) := by decide +kernel
theorem dX0_copyEdges_37 : decode cX0_copyEdges 37 = .ok (.iload_n 3, 1) := by decide +kernel
theorem dX0_copyEdges_38 : decode cX0_copyEdges 38 = .ok (.invokevirtual 61, 3) := by decide +kernel
theorem dX0_copyEdges_41 : decode cX0_copyEdges 41 = .ok (.ifCond .ne 7, 3) := by decide +kernel
theorem dX0_copyEdges_44 : decode cX0_copyEdges 44 = .ok (.iconst 0, 1) := by decide +kernel
theorem dX0_copyEdges_45 : decode cX0_copyEdges 45 = .ok (.goto 4, 3) := by decide +kernel
theorem dX0_copyEdges_48 : decode cX0_copyEdges 48 = .ok (.iconst 1, 1) := by decide +kernel
theorem dX0_copyEdges_49 : decode cX0_copyEdges 49 = .ok (.iastore, 1) := by decide +kernel
theorem dX0_copyEdges_50 : decode cX0_copyEdges 50 = .ok (.iinc 3 1, 3) := by decide +kernel
theorem dX0_copyEdges_53 : decode cX0_copyEdges 53 = .ok (.goto (-33), 3) := by decide +kernel
theorem dX0_copyEdges_56 : decode cX0_copyEdges 56 = .ok (.iinc 2 1, 3) := by decide +kernel
theorem dX0_copyEdges_59 : decode cX0_copyEdges 59 = .ok (.goto (-49), 3) := by decide +kernel
theorem dX0_copyEdges_62 : decode cX0_copyEdges 62 = .ok (.return_, 1) := by decide +kernel
theorem dX0_gatherTree_0 : decode cX0_gatherTree 0 = .ok (.iconst 0, 1) := by decide +kernel
theorem dX0_gatherTree_1 : decode cX0_gatherTree 1 = .ok (.istore_n 2, 1) := by decide +kernel
theorem dX0_gatherTree_2 : decode cX0_gatherTree 2 = .ok (.iload_n 2, 1) := by decide +kernel
theorem dX0_gatherTree_3 : decode cX0_gatherTree 3 = .ok (.bipush 12, 2) := by decide +kernel
theorem dX0_gatherTree_5 : decode cX0_gatherTree 5 = .ok (.if_icmp .ge 24, 3) := by decide +kernel
theorem dX0_gatherTree_8 : decode cX0_gatherTree 8 = .ok (.aload_n 0, 1) := by decide +kernel
theorem dX0_gatherTree_9 : decode cX0_gatherTree 9 = .ok (.getfield 9, 3) := by decide +kernel
theorem dX0_gatherTree_12 : decode cX0_gatherTree 12 = .ok (.iload_n 2, 1) := by decide +kernel
theorem dX0_gatherTree_13 : decode cX0_gatherTree 13 = .ok (.iconst 0, 1) := by decide +kernel
theorem dX0_gatherTree_14 : decode cX0_gatherTree 14 = .ok (.bastore, 1) := by decide +kernel
theorem dX0_gatherTree_15 : decode cX0_gatherTree 15 = .ok (.aload_n 0, 1) := by decide +kernel
theorem dX0_gatherTree_16 : decode cX0_gatherTree 16 = .ok (.getfield 18, 3) := by decide +kernel
theorem dX0_gatherTree_19 : decode cX0_gatherTree 19 = .ok (.iload_n 2, 1) := by decide +kernel
theorem dX0_gatherTree_20 : decode cX0_gatherTree 20 = .ok (.bipush (-9), 2) := by decide +kernel
theorem dX0_gatherTree_22 : decode cX0_gatherTree 22 = .ok (.iastore, 1) := by decide +kernel
theorem dX0_gatherTree_23 : decode cX0_gatherTree 23 = .ok (.iinc 2 1, 3) := by decide +kernel
theorem dX0_gatherTree_26 : decode cX0_gatherTree 26 = .ok (.goto (-24), 3) := by decide +kernel
theorem dX0_gatherTree_29 : decode cX0_gatherTree 29 = .ok (.aload_n 0, 1) := by decide +kernel
theorem dX0_gatherTree_30 : decode cX0_gatherTree 30 = .ok (.iconst 0, 1) := by decide +kernel
theorem dX0_gatherTree_31 : decode cX0_gatherTree 31 = .ok (.putfield 39, 3) := by decide +kernel
theorem dX0_gatherTree_34 : decode cX0_gatherTree 34 = .ok (.aload_n 0, 1) := by decide +kernel
theorem dX0_gatherTree_35 : decode cX0_gatherTree 35 = .ok (.iload_n 1, 1) := by decide +kernel
theorem dX0_gatherTree_36 : decode cX0_gatherTree 36 = .ok (.invokevirtual 48, 3) := by decide +kernel
theorem dX0_gatherTree_39 : decode cX0_gatherTree 39 = .ok (.ifCond .ne 4, 3) := by decide +kernel
theorem dX0_gatherTree_42 : decode cX0_gatherTree 42 = .ok (.return_, 1) := by decide +kernel
theorem dX0_gatherTree_43 : decode cX0_gatherTree 43 = .ok (.aload_n 0, 1) := by decide +kernel
theorem dX0_gatherTree_44 : decode cX0_gatherTree 44 = .ok (.getfield 9, 3) := by decide +kernel
theorem dX0_gatherTree_47 : decode cX0_gatherTree 47 = .ok (.iload_n 1, 1) := by decide +kernel
theorem dX0_gatherTree_48 : decode cX0_gatherTree 48 = .ok (.iconst 1, 1) := by decide +kernel
theorem dX0_gatherTree_49 : decode cX0_gatherTree 49 = .ok (.bastore, 1) := by decide +kernel
theorem dX0_gatherTree_50 : decode cX0_gatherTree 50 = .ok (.aload_n 0, 1) := by decide +kernel
theorem dX0_gatherTree_51 : decode cX0_gatherTree 51 = .ok (.iconst 1, 1) := by decide +kernel
theorem dX0_gatherTree_52 : decode cX0_gatherTree 52 = .ok (.putfield 39, 3) := by decide +kernel
theorem dX0_gatherTree_55 : decode cX0_gatherTree 55 = .ok (.iconst 0, 1) := by decide +kernel
theorem dX0_gatherTree_56 : decode cX0_gatherTree 56 = .ok (.istore_n 2, 1) := by decide +kernel
theorem dX0_gatherTree_57 : decode cX0_gatherTree 57 = .ok (.iload_n 2, 1) := by decide +kernel
theorem dX0_gatherTree_58 : decode cX0_gatherTree 58 = .ok (.aload_n 0, 1) := by decide +kernel
theorem dX0_gatherTree_59 : decode cX0_gatherTree 59 = .ok (.getfield 52, 3) := by decide +kernel
theorem dX0_gatherTree_62 : decode cX0_gatherTree 62 = .ok (.if_icmp .ge 13, 3) := by decide +kernel
theorem dX0_gatherTree_65 : decode cX0_gatherTree 65 = .ok (.aload_n 0, 1) := by decide +kernel
theorem dX0_gatherTree_66 : decode cX0_gatherTree 66 = .ok (.invokevirtual 65, 3) := by decide +kernel
theorem dX0_gatherTree_69 : decode cX0_gatherTree 69 = .ok (.iinc 2 1, 3) := by decide +kernel
theorem dX0_gatherTree_72 : decode cX0_gatherTree 72 = .ok (.goto (-15), 3) := by decide +kernel
theorem dX0_gatherTree_75 : decode cX0_gatherTree 75 = .ok (.return_, 1) := by decide +kernel
theorem dX0_gatherNeighbours_0 : decode cX0_gatherNeighbours 0 = .ok (.iconst 0, 1) := by decide +kernel
theorem dX0_gatherNeighbours_1 : decode cX0_gatherNeighbours 1 = .ok (.istore_n 1, 1) := by decide +kernel
theorem dX0_gatherNeighbours_2 : decode cX0_gatherNeighbours 2 = .ok (.iload_n 1, 1) := by decide +kernel
theorem dX0_gatherNeighbours_3 : decode cX0_gatherNeighbours 3 = .ok (.aload_n 0, 1) := by decide +kernel
theorem dX0_gatherNeighbours_4 : decode cX0_gatherNeighbours 4 = .ok (.getfield 52, 3) := by decide +kernel
theorem dX0_gatherNeighbours_7 : decode cX0_gatherNeighbours 7 = .ok (.if_icmp .ge 71, 3) := by decide +kernel
theorem dX0_gatherNeighbours_10 : decode cX0_gatherNeighbours 10 = .ok (.iconst 0, 1) := by decide +kernel
theorem dX0_gatherNeighbours_11 : decode cX0_gatherNeighbours 11 = .ok (.istore_n 2, 1) := by decide +kernel
theorem dX0_gatherNeighbours_12 : decode cX0_gatherNeighbours 12 = .ok (.iload_n 2, 1) := by decide +kernel
theorem dX0_gatherNeighbours_13 : decode cX0_gatherNeighbours 13 = .ok (.aload_n 0, 1) := by decide +kernel
theorem dX0_gatherNeighbours_14 : decode cX0_gatherNeighbours 14 = .ok (.getfield 52, 3) := by decide +kernel
theorem dX0_gatherNeighbours_17 : decode cX0_gatherNeighbours 17 = .ok (.if_icmp .ge 55, 3) := by decide +kernel
theorem dX0_gatherNeighbours_20 : decode cX0_gatherNeighbours 20 = .ok (.aload_n 0, 1) := by decide +kernel
theorem dX0_gatherNeighbours_21 : decode cX0_gatherNeighbours 21 = .ok (.getfield 9, 3) := by decide +kernel
theorem dX0_gatherNeighbours_24 : decode cX0_gatherNeighbours 24 = .ok (.iload_n 1, 1) := by decide +kernel
theorem dX0_gatherNeighbours_25 : decode cX0_gatherNeighbours 25 = .ok (.baload, 1) := by decide +kernel
theorem dX0_gatherNeighbours_26 : decode cX0_gatherNeighbours 26 = .ok (.ifCond .eq 40, 3) := by decide +kernel
theorem dX0_gatherNeighbours_29 : decode cX0_gatherNeighbours 29 = .ok (.aload_n 0, 1) := by decide +kernel
theorem dX0_gatherNeighbours_30 : decode cX0_gatherNeighbours 30 = .ok (.getfield 9, 3) := by decide +kernel
theorem dX0_gatherNeighbours_33 : decode cX0_gatherNeighbours 33 = .ok (.iload_n 2, 1) := by decide +kernel
theorem dX0_gatherNeighbours_34 : decode cX0_gatherNeighbours 34 = .ok (.baload, 1) := by decide +kernel
theorem dX0_gatherNeighbours_35 : decode cX0_gatherNeighbours 35 = .ok (.ifCond .ne 31, 3) := by decide +kernel
theorem dX0_gatherNeighbours_38 : decode cX0_gatherNeighbours 38 = .ok (.aload_n 0, 1) := by decide +kernel
theorem dX0_gatherNeighbours_39 : decode cX0_gatherNeighbours 39 = .ok (.getfield 24, 3) := by decide +kernel
theorem dX0_gatherNeighbours_42 : decode cX0_gatherNeighbours 42 = .ok (.iload_n 1, 1) := by decide +kernel
theorem dX0_gatherNeighbours_43 : decode cX0_gatherNeighbours 43 = .ok (.aaload, 1) := by decide +kernel
theorem dX0_gatherNeighbours_44 : decode cX0_gatherNeighbours 44 = .ok (.iload_n 2, 1) := by decide +kernel
theorem dX0_gatherNeighbours_45 : decode cX0_gatherNeighbours 45 = .ok (.iaload, 1) := by decide +kernel
theorem dX0_gatherNeighbours_46 : decode cX0_gatherNeighbours 46 = .ok (.ifCond .eq 20, 3) := by decide +kernel
theorem dX0_gatherNeighbours_49 : decode cX0_gatherNeighbours 49 = .ok (.aload_n 0, 1) := by decide +kernel
theorem dX0_gatherNeighbours_50 : decode cX0_gatherNeighbours 50 = .ok (.getfield 9, 3) := by decide +kernel
theorem dX0_gatherNeighbours_53 : decode cX0_gatherNeighbours 53 = .ok (.iload_n 2, 1) := by decide +kernel
theorem dX0_gatherNeighbours_54 : decode cX0_gatherNeighbours 54 = .ok (.iconst 1, 1) := by decide +kernel
theorem dX0_gatherNeighbours_55 : decode cX0_gatherNeighbours 55 = .ok (.bastore, 1) := by decide +kernel
theorem dX0_gatherNeighbours_56 : decode cX0_gatherNeighbours 56 = .ok (.aload_n 0, 1) := by decide +kernel
theorem dX0_gatherNeighbours_57 : decode cX0_gatherNeighbours 57 = .ok (.dup, 1) := by decide +kernel
theorem dX0_gatherNeighbours_58 : decode cX0_gatherNeighbours 58 = .ok (.getfield 39, 3) := by decide +kernel
theorem dX0_gatherNeighbours_61 : decode cX0_gatherNeighbours 61 = .ok (.iconst 1, 1) := by decide +kernel
theorem dX0_gatherNeighbours_62 : decode cX0_gatherNeighbours 62 = .ok (.iadd, 1) := by decide +kernel
theorem dX0_gatherNeighbours_63 : decode cX0_gatherNeighbours 63 = .ok (.putfield 39, 3) := by decide +kernel
theorem dX0_gatherNeighbours_66 : decode cX0_gatherNeighbours 66 = .ok (.iinc 2 1, 3) := by decide +kernel
theorem dX0_gatherNeighbours_69 : decode cX0_gatherNeighbours 69 = .ok (.goto (-57), 3) := by decide +kernel
theorem dX0_gatherNeighbours_72 : decode cX0_gatherNeighbours 72 = .ok (.iinc 1 1, 3) := by decide +kernel
theorem dX0_gatherNeighbours_75 : decode cX0_gatherNeighbours 75 = .ok (.goto (-73), 3) := by decide +kernel
theorem dX0_gatherNeighbours_78 : decode cX0_gatherNeighbours 78 = .ok (.return_, 1) := by decide +kernel
theorem dX0_rake_0 : decode cX0_rake 0 = .ok (.aload_n 0, 1) := by decide +kernel
theorem dX0_rake_1 : decode cX0_rake 1 = .ok (.getfield 39, 3) := by decide +kernel
theorem dX0_rake_4 : decode cX0_rake 4 = .ok (.iconst 2, 1) := by decide +kernel
theorem dX0_rake_5 : decode cX0_rake 5 = .ok (.if_icmp .ne 8, 3) := by decide +kernel
theorem dX0_rake_8 : decode cX0_rake 8 = .ok (.aload_n 0, 1) := by decide +kernel
theorem dX0_rake_9 : decode cX0_rake 9 = .ok (.invokevirtual 68, 3) := by decide +kernel
theorem dX0_rake_12 : decode cX0_rake 12 = .ok (.return_, 1) := by decide +kernel
theorem dX0_rake_13 : decode cX0_rake 13 = .ok (.iconst 0, 1) := by decide +kernel
theorem dX0_rake_14 : decode cX0_rake 14 = .ok (.istore_n 1, 1) := by decide +kernel
theorem dX0_rake_15 : decode cX0_rake 15 = .ok (.iload_n 1, 1) := by decide +kernel
theorem dX0_rake_16 : decode cX0_rake 16 = .ok (.aload_n 0, 1) := by decide +kernel
theorem dX0_rake_17 : decode cX0_rake 17 = .ok (.getfield 52, 3) := by decide +kernel
theorem dX0_rake_20 : decode cX0_rake 20 = .ok (.if_icmp .ge 38, 3) := by decide +kernel
theorem dX0_rake_23 : decode cX0_rake 23 = .ok (.aload_n 0, 1) := by decide +kernel
theorem dX0_rake_24 : decode cX0_rake 24 = .ok (.getfield 15, 3) := by decide +kernel
theorem dX0_rake_27 : decode cX0_rake 27 = .ok (.iload_n 1, 1) := by decide +kernel
theorem dX0_rake_28 : decode cX0_rake 28 = .ok (.aload_n 0, 1) := by decide +kernel
theorem dX0_rake_29 : decode cX0_rake 29 = .ok (.getfield 9, 3) := by decide +kernel
theorem dX0_rake_32 : decode cX0_rake 32 = .ok (.iload_n 1, 1) := by decide +kernel
theorem dX0_rake_33 : decode cX0_rake 33 = .ok (.baload, 1) := by decide +kernel
theorem dX0_rake_34 : decode cX0_rake 34 = .ok (.ifCond .eq 16, 3) := by decide +kernel
theorem dX0_rake_37 : decode cX0_rake 37 = .ok (.aload_n 0, 1) := by decide +kernel
theorem dX0_rake_38 : decode cX0_rake 38 = .ok (.iload_n 1, 1) := by decide +kernel
theorem dX0_rake_39 : decode cX0_rake 39 = .ok (.invokevirtual 71, 3) := by decide +kernel
theorem dX0_rake_42 : decode cX0_rake 42 = .ok (.iconst 1, 1) := by decide +kernel
theorem dX0_rake_43 : decode cX0_rake 43 = .ok (.if_icmp .ne 7, 3) := by decide +kernel
theorem dX0_rake_46 : decode cX0_rake 46 = .ok (.iconst 1, 1) := by decide +kernel
theorem dX0_rake_47 : decode cX0_rake 47 = .ok (.goto 4, 3) := by decide +kernel
theorem dX0_rake_50 : decode cX0_rake 50 = .ok (.iconst 0, 1) := by decide +kernel
theorem dX0_rake_51 : decode cX0_rake 51 = .ok (.bastore, 1) := by decide +kernel
theorem dX0_rake_52 : decode cX0_rake 52 = .ok (.iinc 1 1, 3) := by decide +kernel
theorem dX0_rake_55 : decode cX0_rake 55 = .ok (.goto (-40), 3) := by decide +kernel
theorem dX0_rake_58 : decode cX0_rake 58 = .ok (.iconst 0, 1) := by decide +kernel
theorem dX0_rake_59 : decode cX0_rake 59 = .ok (.istore_n 1, 1) := by decide +kernel
theorem dX0_rake_60 : decode cX0_rake 60 = .ok (.iload_n 1, 1) := by decide +kernel
theorem dX0_rake_61 : decode cX0_rake 61 = .ok (.aload_n 0, 1) := by decide +kernel
theorem dX0_rake_62 : decode cX0_rake 62 = .ok (.getfield 52, 3) := by decide +kernel
theorem dX0_rake_65 : decode cX0_rake 65 = .ok (.if_icmp .ge 23, 3) := by decide +kernel
theorem dX0_rake_68 : decode cX0_rake 68 = .ok (.aload_n 0, 1) := by decide +kernel
theorem dX0_rake_69 : decode cX0_rake 69 = .ok (.getfield 15, 3) := by decide +kernel
theorem dX0_rake_72 : decode cX0_rake 72 = .ok (.iload_n 1, 1) := by decide +kernel
theorem dX0_rake_73 : decode cX0_rake 73 = .ok (.baload, 1) := by decide +kernel
theorem dX0_rake_74 : decode cX0_rake 74 = .ok (.ifCond .eq 8, 3) := by decide +kernel
theorem dX0_rake_77 : decode cX0_rake 77 = .ok (.aload_n 0, 1) := by decide +kernel
theorem dX0_rake_78 : decode cX0_rake 78 = .ok (.iload_n 1, 1) := by decide +kernel
theorem dX0_rake_79 : decode cX0_rake 79 = .ok (.invokevirtual 75, 3) := by decide +kernel
theorem dX0_rake_82 : decode cX0_rake 82 = .ok (.iinc 1 1, 3) := by decide +kernel
theorem dX0_rake_85 : decode cX0_rake 85 = .ok (.goto (-25), 3) := by decide +kernel
theorem dX0_rake_88 : decode cX0_rake 88 = .ok (.return_, 1) := by decide +kernel
theorem dX0_removeGreatest_0 : decode cX0_removeGreatest 0 = .ok (.aload_n 0, 1) := by decide +kernel
theorem dX0_removeGreatest_1 : decode cX0_removeGreatest 1 = .ok (.getfield 52, 3) := by decide +kernel
theorem dX0_removeGreatest_4 : decode cX0_removeGreatest 4 = .ok (.iconst 1, 1) := by decide +kernel
theorem dX0_removeGreatest_5 : decode cX0_removeGreatest 5 = .ok (.isub, 1) := by decide +kernel
theorem dX0_removeGreatest_6 : decode cX0_removeGreatest 6 = .ok (.istore_n 1, 1) := by decide +kernel
theorem dX0_removeGreatest_7 : decode cX0_removeGreatest 7 = .ok (.iload_n 1, 1) := by decide +kernel
theorem dX0_removeGreatest_8 : decode cX0_removeGreatest 8 = .ok (.ifCond .lt 24, 3) := by decide +kernel
theorem dX0_removeGreatest_11 : decode cX0_removeGreatest 11 = .ok (.aload_n 0, 1) := by decide +kernel
theorem dX0_removeGreatest_12 : decode cX0_removeGreatest 12 = .ok (.getfield 9, 3) := by decide +kernel
theorem dX0_removeGreatest_15 : decode cX0_removeGreatest 15 = .ok (.iload_n 1, 1) := by decide +kernel
theorem dX0_removeGreatest_16 : decode cX0_removeGreatest 16 = .ok (.baload, 1) := by decide +kernel
theorem dX0_removeGreatest_17 : decode cX0_removeGreatest 17 = .ok (.ifCond .eq 9, 3) := by decide +kernel
theorem dX0_removeGreatest_20 : decode cX0_removeGreatest 20 = .ok (.aload_n 0, 1) := by decide +kernel
theorem dX0_removeGreatest_21 : decode cX0_removeGreatest 21 = .ok (.iload_n 1, 1) := by decide +kernel
theorem dX0_removeGreatest_22 : decode cX0_removeGreatest 22 = .ok (.invokevirtual 75, 3) := by decide +kernel
theorem dX0_removeGreatest_25 : decode cX0_removeGreatest 25 = .ok (.return_, 1) := by decide +kernel
theorem dX0_removeGreatest_26 : decode cX0_removeGreatest 26 = .ok (.iinc 1 (-1), 3) := by decide +kernel
theorem dX0_removeGreatest_29 : decode cX0_removeGreatest 29 = .ok (.goto (-22), 3) := by decide +kernel
theorem dX0_removeGreatest_32 : decode cX0_removeGreatest 32 = .ok (.return_, 1) := by decide +kernel
theorem dX0_compress_0 : decode cX0_compress 0 = .ok (.aload_n 0, 1) := by decide +kernel
theorem dX0_compress_1 : decode cX0_compress 1 = .ok (.invokevirtual 78, 3) := by decide +kernel
theorem dX0_compress_4 : decode cX0_compress 4 = .ok (.iconst 0, 1) := by decide +kernel
theorem dX0_compress_5 : decode cX0_compress 5 = .ok (.istore_n 1, 1) := by decide +kernel
theorem dX0_compress_6 : decode cX0_compress 6 = .ok (.iload_n 1, 1) := by decide +kernel
theorem dX0_compress_7 : decode cX0_compress 7 = .ok (.aload_n 0, 1) := by decide +kernel
theorem dX0_compress_8 : decode cX0_compress 8 = .ok (.getfield 52, 3) := by decide +kernel
theorem dX0_compress_11 : decode cX0_compress 11 = .ok (.if_icmp .ge 32, 3) := by decide +kernel
theorem dX0_compress_14 : decode cX0_compress 14 = .ok (.aload_n 0, 1) := by decide +kernel
theorem dX0_compress_15 : decode cX0_compress 15 = .ok (.getfield 9, 3) := by decide +kernel
theorem dX0_compress_18 : decode cX0_compress 18 = .ok (.iload_n 1, 1) := by decide +kernel
theorem dX0_compress_19 : decode cX0_compress 19 = .ok (.baload, 1) := by decide +kernel
theorem dX0_compress_20 : decode cX0_compress 20 = .ok (.ifCond .eq 17, 3) := by decide +kernel
theorem dX0_compress_23 : decode cX0_compress 23 = .ok (.aload_n 0, 1) := by decide +kernel
theorem dX0_compress_24 : decode cX0_compress 24 = .ok (.iload_n 1, 1) := by decide +kernel
theorem dX0_compress_25 : decode cX0_compress 25 = .ok (.invokevirtual 71, 3) := by decide +kernel
theorem dX0_compress_28 : decode cX0_compress 28 = .ok (.iconst 2, 1) := by decide +kernel
theorem dX0_compress_29 : decode cX0_compress 29 = .ok (.if_icmp .ne 8, 3) := by decide +kernel
theorem dX0_compress_32 : decode cX0_compress 32 = .ok (.aload_n 0, 1) := by decide +kernel
theorem dX0_compress_33 : decode cX0_compress 33 = .ok (.iload_n 1, 1) := by decide +kernel
theorem dX0_compress_34 : decode cX0_compress 34 = .ok (.invokevirtual 81, 3) := by decide +kernel
theorem dX0_compress_37 : decode cX0_compress 37 = .ok (.iinc 1 1, 3) := by decide +kernel
theorem dX0_compress_40 : decode cX0_compress 40 = .ok (.goto (-34), 3) := by decide +kernel
theorem dX0_compress_43 : decode cX0_compress 43 = .ok (.return_, 1) := by decide +kernel
theorem dX0_makeEdgesOld_0 : decode cX0_makeEdgesOld 0 = .ok (.iconst 0, 1) := by decide +kernel
theorem dX0_makeEdgesOld_1 : decode cX0_makeEdgesOld 1 = .ok (.istore_n 1, 1) := by decide +kernel
theorem dX0_makeEdgesOld_2 : decode cX0_makeEdgesOld 2 = .ok (.iload_n 1, 1) := by decide +kernel
theorem dX0_makeEdgesOld_3 : decode cX0_makeEdgesOld 3 = .ok (.aload_n 0, 1) := by decide +kernel
theorem dX0_makeEdgesOld_4 : decode cX0_makeEdgesOld 4 = .ok (.getfield 52, 3) := by decide +kernel
theorem dX0_makeEdgesOld_7 : decode cX0_makeEdgesOld 7 = .ok (.if_icmp .ge 45, 3) := by decide +kernel
theorem dX0_makeEdgesOld_10 : decode cX0_makeEdgesOld 10 = .ok (.iconst 0, 1) := by decide +kernel
theorem dX0_makeEdgesOld_11 : decode cX0_makeEdgesOld 11 = .ok (.istore_n 2, 1) := by decide +kernel
theorem dX0_makeEdgesOld_12 : decode cX0_makeEdgesOld 12 = .ok (.iload_n 2, 1) := by decide +kernel
theorem dX0_makeEdgesOld_13 : decode cX0_makeEdgesOld 13 = .ok (.aload_n 0, 1) := by decide +kernel
theorem dX0_makeEdgesOld_14 : decode cX0_makeEdgesOld 14 = .ok (.getfield 52, 3) := by decide +kernel
theorem dX0_makeEdgesOld_17 : decode cX0_makeEdgesOld 17 = .ok (.if_icmp .ge 29, 3) := by decide +kernel
theorem dX0_makeEdgesOld_20 : decode cX0_makeEdgesOld 20 = .ok (.aload_n 0, 1) := by decide +kernel
theorem dX0_makeEdgesOld_21 : decode cX0_makeEdgesOld 21 = .ok (.getfield 24, 3) := by decide +kernel
theorem dX0_makeEdgesOld_24 : decode cX0_makeEdgesOld 24 = .ok (.iload_n 1, 1) := by decide +kernel
theorem dX0_makeEdgesOld_25 : decode cX0_makeEdgesOld 25 = .ok (.aaload, 1) := by decide +kernel
theorem dX0_makeEdgesOld_26 : decode cX0_makeEdgesOld 26 = .ok (.iload_n 2, 1) := by decide +kernel
theorem dX0_makeEdgesOld_27 : decode cX0_makeEdgesOld 27 = .ok (.aload_n 0, 1) := by decide +kernel
theorem dX0_makeEdgesOld_28 : decode cX0_makeEdgesOld 28 = .ok (.getfield 24, 3) := by decide +kernel
theorem dX0_makeEdgesOld_31 : decode cX0_makeEdgesOld 31 = .ok (.iload_n 1, 1) := by decide +kernel
theorem dX0_makeEdgesOld_32 : decode cX0_makeEdgesOld 32 = .ok (.aaload, 1) := by decide +kernel
theorem dX0_makeEdgesOld_33 : decode cX0_makeEdgesOld 33 = .ok (.iload_n 2, 1) := by decide +kernel
theorem dX0_makeEdgesOld_34 : decode cX0_makeEdgesOld 34 = .ok (.iaload, 1) := by decide +kernel
theorem dX0_makeEdgesOld_35 : decode cX0_makeEdgesOld 35 = .ok (.iconst 1, 1) := by decide +kernel
theorem dX0_makeEdgesOld_36 : decode cX0_makeEdgesOld 36 = .ok (.invokestatic 84, 3) := by decide +kernel
theorem dX0_makeEdgesOld_39 : decode cX0_makeEdgesOld 39 = .ok (.iastore, 1) := by decide +kernel
theorem dX0_makeEdgesOld_40 : decode cX0_makeEdgesOld 40 = .ok (.iinc 2 1, 3) := by decide +kernel
theorem dX0_makeEdgesOld_43 : decode cX0_makeEdgesOld 43 = .ok (.goto (-31), 3) := by decide +kernel
theorem dX0_makeEdgesOld_46 : decode cX0_makeEdgesOld 46 = .ok (.iinc 1 1, 3) := by decide +kernel
theorem dX0_makeEdgesOld_49 : decode cX0_makeEdgesOld 49 = .ok (.goto (-47), 3) := by decide +kernel
theorem dX0_makeEdgesOld_52 : decode cX0_makeEdgesOld 52 = .ok (.return_, 1) := by decide +kernel
theorem dX0_bypass_0 : decode cX0_bypass 0 = .ok (.aload_n 0, 1) := by decide +kernel
theorem dX0_bypass_1 : decode cX0_bypass 1 = .ok (.iload_n 1, 1) := by decide +kernel
theorem dX0_bypass_2 : decode cX0_bypass 2 = .ok (.iconst (-1), 1) := by decide +kernel
theorem dX0_bypass_3 : decode cX0_bypass 3 = .ok (.invokevirtual 89, 3) := by decide +kernel
theorem dX0_bypass_6 : decode cX0_bypass 6 = .ok (.istore_n 2, 1) := by decide +kernel
theorem dX0_bypass_7 : decode cX0_bypass 7 = .ok (.aload_n 0, 1) := by decide +kernel
theorem dX0_bypass_8 : decode cX0_bypass 8 = .ok (.iload_n 1, 1) := by decide +kernel
theorem dX0_bypass_9 : decode cX0_bypass 9 = .ok (.iload_n 2, 1) := by decide +kernel
theorem dX0_bypass_10 : decode cX0_bypass 10 = .ok (.invokevirtual 89, 3) := by decide +kernel
theorem dX0_bypass_13 : decode cX0_bypass 13 = .ok (.istore_n 3, 1) := by decide +kernel
theorem dX0_bypass_14 : decode cX0_bypass 14 = .ok (.aload_n 0, 1) := by decide +kernel
theorem dX0_bypass_15 : decode cX0_bypass 15 = .ok (.iload_n 2, 1) := by decide +kernel
theorem dX0_bypass_16 : decode cX0_bypass 16 = .ok (.invokevirtual 48, 3) := by decide +kernel
theorem dX0_bypass_19 : decode cX0_bypass 19 = .ok (.ifCond .eq 11, 3) := by decide +kernel
theorem dX0_bypass_22 : decode cX0_bypass 22 = .ok (.aload_n 0, 1) := by decide +kernel
theorem dX0_bypass_23 : decode cX0_bypass 23 = .ok (.iload_n 3, 1) := by decide +kernel
theorem dX0_bypass_24 : decode cX0_bypass 24 = .ok (.invokevirtual 48, 3) := by decide +kernel
theorem dX0_bypass_27 : decode cX0_bypass 27 = .ok (.ifCond .ne 4, 3) := by decide +kernel
theorem dX0_bypass_30 : decode cX0_bypass 30 = .ok (.return_, 1) := by decide +kernel
theorem dX0_bypass_31 : decode cX0_bypass 31 = .ok (.aload_n 0, 1) := by decide +kernel
theorem dX0_bypass_32 : decode cX0_bypass 32 = .ok (.getfield 24, 3) := by decide +kernel
theorem dX0_bypass_35 : decode cX0_bypass 35 = .ok (.iload_n 1, 1) := by decide +kernel
theorem dX0_bypass_36 : decode cX0_bypass 36 = .ok (.aaload, 1) := by decide +kernel
theorem dX0_bypass_37 : decode cX0_bypass 37 = .ok (.iload_n 2, 1) := by decide +kernel
theorem dX0_bypass_38 : decode cX0_bypass 38 = .ok (.iaload, 1) := by decide +kernel
theorem dX0_bypass_39 : decode cX0_bypass 39 = .ok (.iconst 2, 1) := by decide +kernel
theorem dX0_bypass_40 : decode cX0_bypass 40 = .ok (.if_icmp .eq 15, 3) := by decide +kernel
theorem dX0_bypass_43 : decode cX0_bypass 43 = .ok (.aload_n 0, 1) := by decide +kernel
theorem dX0_bypass_44 : decode cX0_bypass 44 = .ok (.getfield 24, 3) := by decide +kernel
theorem dX0_bypass_47 : decode cX0_bypass 47 = .ok (.iload_n 1, 1) := by decide +kernel
theorem dX0_bypass_48 : decode cX0_bypass 48 = .ok (.aaload, 1) := by decide +kernel
theorem dX0_bypass_49 : decode cX0_bypass 49 = .ok (.iload_n 3, 1) := by decide +kernel
theorem dX0_bypass_50 : decode cX0_bypass 50 = .ok (.iaload, 1) := by decide +kernel
theorem dX0_bypass_51 : decode cX0_bypass 51 = .ok (.iconst 2, 1) := by decide +kernel
theorem dX0_bypass_52 : decode cX0_bypass 52 = .ok (.if_icmp .ne 4, 3) := by decide +kernel
theorem dX0_bypass_55 : decode cX0_bypass 55 = .ok (.return_, 1) := by decide +kernel
theorem dX0_bypass_56 : decode cX0_bypass 56 = .ok (.aload_n 0, 1) := by decide +kernel
theorem dX0_bypass_57 : decode cX0_bypass 57 = .ok (.iload_n 1, 1) := by decide +kernel
theorem dX0_bypass_58 : decode cX0_bypass 58 = .ok (.invokevirtual 75, 3) := by decide +kernel
theorem dX0_bypass_61 : decode cX0_bypass 61 = .ok (.aload_n 0, 1) := by decide +kernel
theorem dX0_bypass_62 : decode cX0_bypass 62 = .ok (.getfield 24, 3) := by decide +kernel
theorem dX0_bypass_65 : decode cX0_bypass 65 = .ok (.iload_n 2, 1) := by decide +kernel
theorem dX0_bypass_66 : decode cX0_bypass 66 = .ok (.aaload, 1) := by decide +kernel
theorem dX0_bypass_67 : decode cX0_bypass 67 = .ok (.iload_n 3, 1) := by decide +kernel
theorem dX0_bypass_68 : decode cX0_bypass 68 = .ok (.iconst 2, 1) := by decide +kernel
theorem dX0_bypass_69 : decode cX0_bypass 69 = .ok (.iastore, 1) := by decide +kernel
theorem dX0_bypass_70 : decode cX0_bypass 70 = .ok (.aload_n 0, 1) := by decide +kernel
theorem dX0_bypass_71 : decode cX0_bypass 71 = .ok (.getfield 24, 3) := by decide +kernel
theorem dX0_bypass_74 : decode cX0_bypass 74 = .ok (.iload_n 3, 1) := by decide +kernel
theorem dX0_bypass_75 : decode cX0_bypass 75 = .ok (.aaload, 1) := by decide +kernel
theorem dX0_bypass_76 : decode cX0_bypass 76 = .ok (.iload_n 2, 1) := by decide +kernel
theorem dX0_bypass_77 : decode cX0_bypass 77 = .ok (.iconst 2, 1) := by decide +kernel
theorem dX0_bypass_78 : decode cX0_bypass 78 = .ok (.iastore, 1) := by decide +kernel
theorem dX0_bypass_79 : decode cX0_bypass 79 = .ok (.return_, 1) := by decide +kernel
theorem dX0_neighbourAfter_0 : decode cX0_neighbourAfter 0 = .ok (.iload_n 2, 1) := by decide +kernel
theorem dX0_neighbourAfter_1 : decode cX0_neighbourAfter 1 = .ok (.iconst 1, 1) := by decide +kernel
theorem dX0_neighbourAfter_2 : decode cX0_neighbourAfter 2 = .ok (.iadd, 1) := by decide +kernel
theorem dX0_neighbourAfter_3 : decode cX0_neighbourAfter 3 = .ok (.istore_n 3, 1) := by decide +kernel
theorem dX0_neighbourAfter_4 : decode cX0_neighbourAfter 4 = .ok (.iload_n 3, 1) := by decide +kernel
theorem dX0_neighbourAfter_5 : decode cX0_neighbourAfter 5 = .ok (.aload_n 0, 1) := by decide +kernel
theorem dX0_neighbourAfter_6 : decode cX0_neighbourAfter 6 = .ok (.getfield 52, 3) := by decide +kernel
theorem dX0_neighbourAfter_9 : decode cX0_neighbourAfter 9 = .ok (.if_icmp .ge 26, 3) := by decide +kernel
theorem dX0_neighbourAfter_12 : decode cX0_neighbourAfter 12 = .ok (.iload_n 3, 1) := by decide +kernel
theorem dX0_neighbourAfter_13 : decode cX0_neighbourAfter 13 = .ok (.ifCond .lt 16, 3) := by decide +kernel
theorem dX0_neighbourAfter_16 : decode cX0_neighbourAfter 16 = .ok (.aload_n 0, 1) := by decide +kernel
theorem dX0_neighbourAfter_17 : decode cX0_neighbourAfter 17 = .ok (.getfield 24, 3) := by decide +kernel
theorem dX0_neighbourAfter_20 : decode cX0_neighbourAfter 20 = .ok (.iload_n 1, 1) := by decide +kernel
theorem dX0_neighbourAfter_21 : decode cX0_neighbourAfter 21 = .ok (.aaload, 1) := by decide +kernel
theorem dX0_neighbourAfter_22 : decode cX0_neighbourAfter 22 = .ok (.iload_n 3, 1) := by decide +kernel
theorem dX0_neighbourAfter_23 : decode cX0_neighbourAfter 23 = .ok (.iaload, 1) := by decide +kernel
theorem dX0_neighbourAfter_24 : decode cX0_neighbourAfter 24 = .ok (.ifCond .eq 5, 3) := by decide +kernel
theorem dX0_neighbourAfter_27 : decode cX0_neighbourAfter 27 = .ok (.iload_n 3, 1) := by decide +kernel
theorem dX0_neighbourAfter_28 : decode cX0_neighbourAfter 28 = .ok (.ireturn, 1) := by decide +kernel
theorem dX0_neighbourAfter_29 : decode cX0_neighbourAfter 29 = .ok (.iinc 3 1, 3) := by decide +kernel
theorem dX0_neighbourAfter_32 : decode cX0_neighbourAfter 32 = .ok (.goto (-28), 3) := by decide +kernel
theorem dX0_neighbourAfter_35 : decode cX0_neighbourAfter 35 = .ok (.bipush (-9), 2) := by decide +kernel
theorem dX0_neighbourAfter_37 : decode cX0_neighbourAfter 37 = .ok (.ireturn, 1) := by decide +kernel
theorem dX0_degreeOf_0 : decode cX0_degreeOf 0 = .ok (.iconst 0, 1) := by decide +kernel
theorem dX0_degreeOf_1 : decode cX0_degreeOf 1 = .ok (.istore_n 2, 1) := by decide +kernel
theorem dX0_degreeOf_2 : decode cX0_degreeOf 2 = .ok (.iconst 0, 1) := by decide +kernel
theorem dX0_degreeOf_3 : decode cX0_degreeOf 3 = .ok (.istore_n 3, 1) := by decide +kernel
theorem dX0_degreeOf_4 : decode cX0_degreeOf 4 = .ok (.iload_n 3, 1) := by decide +kernel
theorem dX0_degreeOf_5 : decode cX0_degreeOf 5 = .ok (.aload_n 0, 1) := by decide +kernel
theorem dX0_degreeOf_6 : decode cX0_degreeOf 6 = .ok (.getfield 52, 3) := by decide +kernel
theorem dX0_degreeOf_9 : decode cX0_degreeOf 9 = .ok (.if_icmp .ge 23, 3) := by decide +kernel
theorem dX0_degreeOf_12 : decode cX0_degreeOf 12 = .ok (.aload_n 0, 1) := by decide +kernel
theorem dX0_degreeOf_13 : decode cX0_degreeOf 13 = .ok (.getfield 24, 3) := by decide +kernel
theorem dX0_degreeOf_16 : decode cX0_degreeOf 16 = .ok (.iload_n 1, 1) := by decide +kernel
theorem dX0_degreeOf_17 : decode cX0_degreeOf 17 = .ok (.aaload, 1) := by decide +kernel
theorem dX0_degreeOf_18 : decode cX0_degreeOf 18 = .ok (.iload_n 3, 1) := by decide +kernel
theorem dX0_degreeOf_19 : decode cX0_degreeOf 19 = .ok (.iaload, 1) := by decide +kernel
theorem dX0_degreeOf_20 : decode cX0_degreeOf 20 = .ok (.ifCond .eq 6, 3) := by decide +kernel
theorem dX0_degreeOf_23 : decode cX0_degreeOf 23 = .ok (.iinc 2 1, 3) := by decide +kernel
theorem dX0_degreeOf_26 : decode cX0_degreeOf 26 = .ok (.iinc 3 1, 3) := by decide +kernel
theorem dX0_degreeOf_29 : decode cX0_degreeOf 29 = .ok (.goto (-25), 3) := by decide +kernel
theorem dX0_degreeOf_32 : decode cX0_degreeOf 32 = .ok (.iload_n 2, 1) := by decide +kernel
theorem dX0_degreeOf_33 : decode cX0_degreeOf 33 = .ok (.ireturn, 1) := by decide +kernel
theorem dX0_remove_0 : decode cX0_remove 0 = .ok (.aload_n 0, 1) := by decide +kernel
theorem dX0_remove_1 : decode cX0_remove 1 = .ok (.getfield 9, 3) := by decide +kernel
theorem dX0_remove_4 : decode cX0_remove 4 = .ok (.iload_n 1, 1) := by decide +kernel
theorem dX0_remove_5 : decode cX0_remove 5 = .ok (.iconst 0, 1) := by decide +kernel
theorem dX0_remove_6 : decode cX0_remove 6 = .ok (.bastore, 1) := by decide +kernel
theorem dX0_remove_7 : decode cX0_remove 7 = .ok (.aload_n 0, 1) := by decide +kernel
theorem dX0_remove_8 : decode cX0_remove 8 = .ok (.getfield 18, 3) := by decide +kernel
theorem dX0_remove_11 : decode cX0_remove 11 = .ok (.iload_n 1, 1) := by decide +kernel
theorem dX0_remove_12 : decode cX0_remove 12 = .ok (.aload_n 0, 1) := by decide +kernel
theorem dX0_remove_13 : decode cX0_remove 13 = .ok (.getfield 35, 3) := by decide +kernel
theorem dX0_remove_16 : decode cX0_remove 16 = .ok (.iastore, 1) := by decide +kernel
theorem dX0_remove_17 : decode cX0_remove 17 = .ok (.aload_n 0, 1) := by decide +kernel
theorem dX0_remove_18 : decode cX0_remove 18 = .ok (.dup, 1) := by decide +kernel
theorem dX0_remove_19 : decode cX0_remove 19 = .ok (.getfield 39, 3) := by decide +kernel
theorem dX0_remove_22 : decode cX0_remove 22 = .ok (.iconst 1, 1) := by decide +kernel
theorem dX0_remove_23 : decode cX0_remove 23 = .ok (.isub, 1) := by decide +kernel
theorem dX0_remove_24 : decode cX0_remove 24 = .ok (.putfield 39, 3) := by decide +kernel
theorem dX0_remove_27 : decode cX0_remove 27 = .ok (.iconst 0, 1) := by decide +kernel
theorem dX0_remove_28 : decode cX0_remove 28 = .ok (.istore_n 2, 1) := by decide +kernel
theorem dX0_remove_29 : decode cX0_remove 29 = .ok (.iload_n 2, 1) := by decide +kernel
theorem dX0_remove_30 : decode cX0_remove 30 = .ok (.aload_n 0, 1) := by decide +kernel
theorem dX0_remove_31 : decode cX0_remove 31 = .ok (.getfield 52, 3) := by decide +kernel
theorem dX0_remove_34 : decode cX0_remove 34 = .ok (.if_icmp .ge 27, 3) := by decide +kernel
theorem dX0_remove_37 : decode cX0_remove 37 = .ok (.aload_n 0, 1) := by decide +kernel
theorem dX0_remove_38 : decode cX0_remove 38 = .ok (.getfield 24, 3) := by decide +kernel
theorem dX0_remove_41 : decode cX0_remove 41 = .ok (.iload_n 2, 1) := by decide +kernel
theorem dX0_remove_42 : decode cX0_remove 42 = .ok (.aaload, 1) := by decide +kernel
theorem dX0_remove_43 : decode cX0_remove 43 = .ok (.iload_n 1, 1) := by decide +kernel
theorem dX0_remove_44 : decode cX0_remove 44 = .ok (.iconst 0, 1) := by decide +kernel
theorem dX0_remove_45 : decode cX0_remove 45 = .ok (.iastore, 1) := by decide +kernel
theorem dX0_remove_46 : decode cX0_remove 46 = .ok (.aload_n 0, 1) := by decide +kernel
theorem dX0_remove_47 : decode cX0_remove 47 = .ok (.getfield 24, 3) := by decide +kernel
theorem dX0_remove_50 : decode cX0_remove 50 = .ok (.iload_n 1, 1) := by decide +kernel
theorem dX0_remove_51 : decode cX0_remove 51 = .ok (.aaload, 1) := by decide +kernel
theorem dX0_remove_52 : decode cX0_remove 52 = .ok (.iload_n 2, 1) := by decide +kernel
theorem dX0_remove_53 : decode cX0_remove 53 = .ok (.iconst 0, 1) := by decide +kernel
theorem dX0_remove_54 : decode cX0_remove 54 = .ok (.iastore, 1) := by decide +kernel
theorem dX0_remove_55 : decode cX0_remove 55 = .ok (.iinc 2 1, 3) := by decide +kernel
theorem dX0_remove_58 : decode cX0_remove 58 = .ok (.goto (-29), 3) := by decide +kernel
theorem dX0_remove_61 : decode cX0_remove 61 = .ok (.return_, 1) := by decide +kernel
theorem dX1_init_0 : decode cX1_init 0 = .ok (.aload_n 0, 1) := by decide +kernel
theorem dX1_init_1 : decode cX1_init 1 = .ok (.invokespecial 3, 3) := by decide +kernel
theorem dX1_init_4 : decode cX1_init 4 = .ok (.aload_n 0, 1) := by decide +kernel
theorem dX1_init_5 : decode cX1_init 5 = .ok (.bipush 12, 2) := by decide +kernel
theorem dX1_init_7 : decode cX1_init 7 = .ok (.newarray .int, 2) := by decide +kernel
theorem dX1_init_9 : decode cX1_init 9 = .ok (.putfield 9, 3) := by decide +kernel
theorem dX1_init_12 : decode cX1_init 12 = .ok (.aload_n 0, 1) := by decide +kernel
theorem dX1_init_13 : decode cX1_init 13 = .ok (.bipush 12, 2) := by decide +kernel
theorem dX1_init_15 : decode cX1_init 15 = .ok (.bipush 12, 2) := by decide +kernel
theorem dX1_init_17 : decode cX1_init 17 = .ok (.multianewarray 15 2, 4) := by decide +kernel
theorem dX1_init_21 : decode cX1_init 21 = .ok (.putfield 17, 3) := by decide +kernel
theorem dX1_init_24 : decode cX1_init 24 = .ok (.aload_n 0, 1) := by decide +kernel
theorem dX1_init_25 : decode cX1_init 25 = .ok (.bipush 12, 2) := by decide +kernel
theorem dX1_init_27 : decode cX1_init 27 = .ok (.invokevirtual 20, 3) := by decide +kernel
theorem dX1_init_30 : decode cX1_init 30 = .ok (.return_, 1) := by decide +kernel
theorem dX1_reset_0 : decode cX1_reset 0 = .ok (.aload_n 0, 1) := by decide +kernel
theorem dX1_reset_1 : decode cX1_reset 1 = .ok (.iconst 1, 1) := by decide +kernel
theorem dX1_reset_2 : decode cX1_reset 2 = .ok (.iload_n 1, 1) := by decide +kernel
theorem dX1_reset_3 : decode cX1_reset 3 = .ok (.bipush 12, 2) := by decide +kernel
theorem dX1_reset_5 : decode cX1_reset 5 = .ok (.invokestatic 24, 3) := by decide +kernel
theorem dX1_reset_8 : decode cX1_reset 8 = .ok (.invokestatic 30, 3) := by decide +kernel
theorem dX1_reset_11 : decode cX1_reset 11 = .ok (.putfield 33, 3) := by decide +kernel
theorem dX1_reset_14 : decode cX1_reset 14 = .ok (.aload_n 0, 1) := by decide +kernel
theorem dX1_reset_15 : decode cX1_reset 15 = .ok (.getfield 9, 3) := by decide +kernel
theorem dX1_reset_18 : decode cX1_reset 18 = .ok (.iconst 1, 1) := by decide +kernel
theorem dX1_reset_19 : decode cX1_reset 19 = .ok (.invokestatic 37, 3) := by decide +kernel
theorem dX1_reset_22 : decode cX1_reset 22 = .ok (.iconst 0, 1) := by decide +kernel
theorem dX1_reset_23 : decode cX1_reset 23 = .ok (.istore_n 2, 1) := by decide +kernel
theorem dX1_reset_24 : decode cX1_reset 24 = .ok (.iload_n 2, 1) := by decide +kernel
theorem dX1_reset_25 : decode cX1_reset 25 = .ok (.bipush 12, 2) := by decide +kernel
theorem dX1_reset_27 : decode cX1_reset 27 = .ok (.if_icmp .ge 19, 3) := by decide +kernel
theorem dX1_reset_30 : decode cX1_reset 30 = .ok (.aload_n 0, 1) := by decide +kernel
theorem dX1_reset_31 : decode cX1_reset 31 = .ok (.getfield 17, 3) := by decide +kernel
theorem dX1_reset_34 : decode cX1_reset 34 = .ok (.iload_n 2, 1) := by decide +kernel
theorem dX1_reset_35 : decode cX1_reset 35 = .ok (.aaload, 1) := by decide +kernel
theorem dX1_reset_36 : decode cX1_reset 36 = .ok (.iconst 0, 1) := by decide +kernel
theorem dX1_reset_37 : decode cX1_reset 37 = .ok (.invokestatic 37, 3) := by decide +kernel
theorem dX1_reset_40 : decode cX1_reset 40 = .ok (.iinc 2 1, 3) := by decide +kernel
theorem dX1_reset_43 : decode cX1_reset 43 = .ok (.goto (-19), 3) := by decide +kernel
theorem dX1_reset_46 : decode cX1_reset 46 = .ok (.return_, 1) := by decide +kernel
theorem dX1_become_0 : decode cX1_become 0 = .ok (.aload_n 0, 1) := by decide +kernel
theorem dX1_become_1 : decode cX1_become 1 = .ok (.aload_n 1, 1) := by decide +kernel
theorem dX1_become_2 : decode cX1_become 2 = .ok (.getfield 33, 3) := by decide +kernel
theorem dX1_become_5 : decode cX1_become 5 = .ok (.putfield 33, 3) := by decide +kernel
theorem dX1_become_8 : decode cX1_become 8 = .ok (.aload_n 1, 1) := by decide +kernel
theorem dX1_become_9 : decode cX1_become 9 = .ok (.getfield 9, 3) := by decide +kernel
theorem dX1_become_12 : decode cX1_become 12 = .ok (.iconst 0, 1) := by decide +kernel
theorem dX1_become_13 : decode cX1_become 13 = .ok (.aload_n 0, 1) := by decide +kernel
theorem dX1_become_14 : decode cX1_become 14 = .ok (.getfield 9, 3) := by decide +kernel
theorem dX1_become_17 : decode cX1_become 17 = .ok (.iconst 0, 1) := by decide +kernel
theorem dX1_become_18 : decode cX1_become 18 = .ok (.bipush 12, 2) := by decide +kernel
theorem dX1_become_20 : decode cX1_become 20 = .ok (.invokestatic 43, 3) := by decide +kernel
theorem dX1_become_23 : decode cX1_become 23 = .ok (.iconst 0, 1) := by decide +kernel
theorem dX1_become_24 : decode cX1_become 24 = .ok (.istore_n 2, 1) := by decide +kernel
theorem dX1_become_25 : decode cX1_become 25 = .ok (.iload_n 2, 1) := by decide +kernel
theorem dX1_become_26 : decode cX1_become 26 = .ok (.bipush 12, 2) := by decide +kernel
theorem dX1_become_28 : decode cX1_become 28 = .ok (.if_icmp .ge 28, 3) := by decide +kernel
theorem dX1_become_31 : decode cX1_become 31 = .ok (.aload_n 1, 1) := by decide +kernel
theorem dX1_become_32 : decode cX1_become 32 = .ok (.getfield 17, 3) := by decide +kernel
theorem dX1_become_35 : decode cX1_become 35 = .ok (.iload_n 2, 1) := by decide +kernel
theorem dX1_become_36 : decode cX1_become 36 = .ok (.aaload, 1) := by decide +kernel
theorem dX1_become_37 : decode cX1_become 37 = .ok (.iconst 0, 1) := by decide +kernel
theorem dX1_become_38 : decode cX1_become 38 = .ok (.aload_n 0, 1) := by decide +kernel
theorem dX1_become_39 : decode cX1_become 39 = .ok (.getfield 17, 3) := by decide +kernel
theorem dX1_become_42 : decode cX1_become 42 = .ok (.iload_n 2, 1) := by decide +kernel
theorem dX1_become_43 : decode cX1_become 43 = .ok (.aaload, 1) := by decide +kernel
theorem dX1_become_44 : decode cX1_become 44 = .ok (.iconst 0, 1) := by decide +kernel
theorem dX1_become_45 : decode cX1_become 45 = .ok (.bipush 12, 2) := by decide +kernel
theorem dX1_become_47 : decode cX1_become 47 = .ok (.invokestatic 43, 3) := by decide +kernel
theorem dX1_become_50 : decode cX1_become 50 = .ok (.iinc 2 1, 3) := by decide +kernel
theorem dX1_become_53 : decode cX1_become 53 = .ok (.goto (-28), 3) := by decide +kernel
theorem dX1_become_56 : decode cX1_become 56 = .ok (.return_, 1) := by decide +kernel
theorem dX1_vertices_0 : decode cX1_vertices 0 = .ok (.aload_n 0, 1) := by decide +kernel
theorem dX1_vertices_1 : decode cX1_vertices 1 = .ok (.getfield 33, 3) := by decide +kernel
theorem dX1_vertices_4 : decode cX1_vertices 4 = .ok (.ireturn, 1) := by decide +kernel
theorem dX1_hasVertex_0 : decode cX1_hasVertex 0 = .ok (.iload_n 1, 1) := by decide +kernel
theorem dX1_hasVertex_1 : decode cX1_hasVertex 1 = .ok (.ifCond .lt 15, 3) := by decide +kernel
theorem dX1_hasVertex_4 : decode cX1_hasVertex 4 = .ok (.iload_n 1, 1) := by decide +kernel
theorem dX1_hasVertex_5 : decode cX1_hasVertex 5 = .ok (.aload_n 0, 1) := by decide +kernel
theorem dX1_hasVertex_6 : decode cX1_hasVertex 6 = .ok (.getfield 33, 3) := by decide +kernel
theorem dX1_hasVertex_9 : decode cX1_hasVertex 9 = .ok (.if_icmp .ge 7, 3) := by decide +kernel
theorem dX1_hasVertex_12 : decode cX1_hasVertex 12 = .ok (.iconst 1, 1) := by decide +kernel
theorem dX1_hasVertex_13 : decode cX1_hasVertex 13 = .ok (.goto 4, 3) := by decide +kernel
theorem dX1_hasVertex_16 : decode cX1_hasVertex 16 = .ok (.iconst 0, 1) := by decide +kernel
theorem dX1_hasVertex_17 : decode cX1_hasVertex 17 = .ok (.ireturn, 1) := by decide +kernel
theorem dX1_hasVertices_0 : decode cX1_hasVertices 0 = .ok (.iload_n 1, 1) := by decide +kernel
theorem dX1_hasVertices_1 : decode cX1_hasVertices 1 = .ok (.ifCond .lt 27, 3) := by decide +kernel
theorem dX1_hasVertices_4 : decode cX1_hasVertices 4 = .ok (.iload_n 1, 1) := by decide +kernel
theorem dX1_hasVertices_5 : decode cX1_hasVertices 5 = .ok (.aload_n 0, 1) := by decide +kernel
theorem dX1_hasVertices_6 : decode cX1_hasVertices 6 = .ok (.getfield 33, 3) := by decide +kernel
theorem dX1_hasVertices_9 : decode cX1_hasVertices 9 = .ok (.if_icmp .ge 19, 3) := by decide +kernel
theorem dX1_hasVertices_12 : decode cX1_hasVertices 12 = .ok (.iload_n 2, 1) := by decide +kernel
theorem dX1_hasVertices_13 : decode cX1_hasVertices 13 = .ok (.ifCond .lt 15, 3) := by decide +kernel
theorem dX1_hasVertices_16 : decode cX1_hasVertices 16 = .ok (.iload_n 2, 1) := by decide +kernel
theorem dX1_hasVertices_17 : decode cX1_hasVertices 17 = .ok (.aload_n 0, 1) := by decide +kernel
theorem dX1_hasVertices_18 : decode cX1_hasVertices 18 = .ok (.getfield 33, 3) := by decide +kernel
theorem dX1_hasVertices_21 : decode cX1_hasVertices 21 = .ok (.if_icmp .ge 7, 3) := by decide +kernel
theorem dX1_hasVertices_24 : decode cX1_hasVertices 24 = .ok (.iconst 1, 1) := by decide +kernel
theorem dX1_hasVertices_25 : decode cX1_hasVertices 25 = .ok (.goto 4, 3) := by decide +kernel
theorem dX1_hasVertices_28 : decode cX1_hasVertices 28 = .ok (.iconst 0, 1) := by decide +kernel
theorem dX1_hasVertices_29 : decode cX1_hasVertices 29 = .ok (.ireturn, 1) := by decide +kernel
theorem dX1_weightOf_0 : decode cX1_weightOf 0 = .ok (.aload_n 0, 1) := by decide +kernel
theorem dX1_weightOf_1 : decode cX1_weightOf 1 = .ok (.iload_n 1, 1) := by decide +kernel
theorem dX1_weightOf_2 : decode cX1_weightOf 2 = .ok (.invokevirtual 49, 3) := by decide +kernel
theorem dX1_weightOf_5 : decode cX1_weightOf 5 = .ok (.ifCond .eq 12, 3) := by decide +kernel
theorem dX1_weightOf_8 : decode cX1_weightOf 8 = .ok (.aload_n 0, 1) := by decide +kernel
theorem dX1_weightOf_9 : decode cX1_weightOf 9 = .ok (.getfield 9, 3) := by decide +kernel
theorem dX1_weightOf_12 : decode cX1_weightOf 12 = .ok (.iload_n 1, 1) := by decide +kernel
theorem dX1_weightOf_13 : decode cX1_weightOf 13 = .ok (.iaload, 1) := by decide +kernel
theorem dX1_weightOf_14 : decode cX1_weightOf 14 = .ok (.goto 4, 3) := by decide +kernel
theorem dX1_weightOf_17 : decode cX1_weightOf 17 = .ok (.iconst 0, 1) := by decide +kernel
theorem dX1_weightOf_18 : decode cX1_weightOf 18 = .ok (.ireturn, 1) := by decide +kernel
theorem dX1_putWeight_0 : decode cX1_putWeight 0 = .ok (.aload_n 0, 1) := by decide +kernel
theorem dX1_putWeight_1 : decode cX1_putWeight 1 = .ok (.iload_n 1, 1) := by decide +kernel
theorem dX1_putWeight_2 : decode cX1_putWeight 2 = .ok (.invokevirtual 49, 3) := by decide +kernel
theorem dX1_putWeight_5 : decode cX1_putWeight 5 = .ok (.ifCond .eq 10, 3) := by decide +kernel
theorem dX1_putWeight_8 : decode cX1_putWeight 8 = .ok (.aload_n 0, 1) := by decide +kernel
theorem dX1_putWeight_9 : decode cX1_putWeight 9 = .ok (.getfield 9, 3) := by decide +kernel
theorem dX1_putWeight_12 : decode cX1_putWeight 12 = .ok (.iload_n 1, 1) := by decide +kernel
theorem dX1_putWeight_13 : decode cX1_putWeight 13 = .ok (.iload_n 2, 1) := by decide +kernel
theorem dX1_putWeight_14 : decode cX1_putWeight 14 = .ok (.iastore, 1) := by decide +kernel
theorem dX1_putWeight_15 : decode cX1_putWeight 15 = .ok (.return_, 1) := by decide +kernel
theorem dX1_hasEdge_0 : decode cX1_hasEdge 0 = .ok (.aload_n 0, 1) := by decide +kernel
theorem dX1_hasEdge_1 : decode cX1_hasEdge 1 = .ok (.iload_n 1, 1) := by decide +kernel
theorem dX1_hasEdge_2 : decode cX1_hasEdge 2 = .ok (.iload_n 2, 1) := by decide +kernel
theorem dX1_hasEdge_3 : decode cX1_hasEdge 3 = .ok (.invokevirtual 53, 3) := by decide +kernel
theorem dX1_hasEdge_6 : decode cX1_hasEdge 6 = .ok (.ifCond .eq 7, 3) := by decide +kernel
theorem dX1_hasEdge_9 : decode cX1_hasEdge 9 = .ok (.iconst 1, 1) := by decide +kernel
theorem dX1_hasEdge_10 : decode cX1_hasEdge 10 = .ok (.goto 4, 3) := by decide +kernel
theorem dX1_hasEdge_13 : decode cX1_hasEdge 13 = .ok (.iconst 0, 1) := by decide +kernel
theorem dX1_hasEdge_14 : decode cX1_hasEdge 14 = .ok (.ireturn, 1) := by decide +kernel
theorem dX1_edgeBetween_0 : decode cX1_edgeBetween 0 = .ok (.aload_n 0, 1) := by decide +kernel
theorem dX1_edgeBetween_1 : decode cX1_edgeBetween 1 = .ok (.iload_n 1, 1) := by decide +kernel
theorem dX1_edgeBetween_2 : decode cX1_edgeBetween 2 = .ok (.iload_n 2, 1) := by decide +kernel
theorem dX1_edgeBetween_3 : decode cX1_edgeBetween 3 = .ok (.invokevirtual 56, 3) := by decide +kernel
theorem dX1_edgeBetween_6 : decode cX1_edgeBetween 6 = .ok (.ifCond .eq 14, 3) := by decide +kernel
theorem dX1_edgeBetween_9 : decode cX1_edgeBetween 9 = .ok (.aload_n 0, 1) := by decide +kernel
theorem dX1_edgeBetween_10 : decode cX1_edgeBetween 10 = .ok (.getfield 17, 3) := by decide +kernel
theorem dX1_edgeBetween_13 : decode cX1_edgeBetween 13 = .ok (.iload_n 1, 1) := by decide +kernel
theorem dX1_edgeBetween_14 : decode cX1_edgeBetween 14 = .ok (.aaload, 1) := by decide +kernel
theorem dX1_edgeBetween_15 : decode cX1_edgeBetween 15 = .ok (.iload_n 2, 1) := by decide +kernel
theorem dX1_edgeBetween_16 : decode cX1_edgeBetween 16 = .ok (.iaload, 1) := by decide +kernel
theorem dX1_edgeBetween_17 : decode cX1_edgeBetween 17 = .ok (.goto 4, 3) := by decide +kernel
theorem dX1_edgeBetween_20 : decode cX1_edgeBetween 20 = .ok (.iconst 0, 1) := by decide +kernel
theorem dX1_edgeBetween_21 : decode cX1_edgeBetween 21 = .ok (.ireturn, 1) := by decide +kernel
theorem dX1_putEdge_0 : decode cX1_putEdge 0 = .ok (.aload_n 0, 1) := by decide +kernel
theorem dX1_putEdge_1 : decode cX1_putEdge 1 = .ok (.iload_n 1, 1) := by decide +kernel
theorem dX1_putEdge_2 : decode cX1_putEdge 2 = .ok (.iload_n 2, 1) := by decide +kernel
theorem dX1_putEdge_3 : decode cX1_putEdge 3 = .ok (.invokevirtual 56, 3) := by decide +kernel
theorem dX1_putEdge_6 : decode cX1_putEdge 6 = .ok (.ifCond .eq 21, 3) := by decide +kernel
theorem dX1_putEdge_9 : decode cX1_putEdge 9 = .ok (.aload_n 0, 1) := by decide +kernel
theorem dX1_putEdge_10 : decode cX1_putEdge 10 = .ok (.getfield 17, 3) := by decide +kernel
theorem dX1_putEdge_13 : decode cX1_putEdge 13 = .ok (.iload_n 1, 1) := by decide +kernel
theorem dX1_putEdge_14 : decode cX1_putEdge 14 = .ok (.aaload, 1) := by decide +kernel
theorem dX1_putEdge_15 : decode cX1_putEdge 15 = .ok (.iload_n 2, 1) := by decide +kernel
theorem dX1_putEdge_16 : decode cX1_putEdge 16 = .ok (.iload_n 3, 1) := by decide +kernel
theorem dX1_putEdge_17 : decode cX1_putEdge 17 = .ok (.iastore, 1) := by decide +kernel
theorem dX1_putEdge_18 : decode cX1_putEdge 18 = .ok (.aload_n 0, 1) := by decide +kernel
theorem dX1_putEdge_19 : decode cX1_putEdge 19 = .ok (.getfield 17, 3) := by decide +kernel
theorem dX1_putEdge_22 : decode cX1_putEdge 22 = .ok (.iload_n 2, 1) := by decide +kernel
theorem dX1_putEdge_23 : decode cX1_putEdge 23 = .ok (.aaload, 1) := by decide +kernel
theorem dX1_putEdge_24 : decode cX1_putEdge 24 = .ok (.iload_n 1, 1) := by decide +kernel
theorem dX1_putEdge_25 : decode cX1_putEdge 25 = .ok (.iload_n 3, 1) := by decide +kernel
theorem dX1_putEdge_26 : decode cX1_putEdge 26 = .ok (.iastore, 1) := by decide +kernel
theorem dX1_putEdge_27 : decode cX1_putEdge 27 = .ok (.return_, 1) := by decide +kernel
theorem dX1_edgeCount_0 : decode cX1_edgeCount 0 = .ok (.iconst 0, 1) := by decide +kernel
theorem dX1_edgeCount_1 : decode cX1_edgeCount 1 = .ok (.istore_n 1, 1) := by decide +kernel
theorem dX1_edgeCount_2 : decode cX1_edgeCount 2 = .ok (.iconst 0, 1) := by decide +kernel
theorem dX1_edgeCount_3 : decode cX1_edgeCount 3 = .ok (.istore_n 2, 1) := by decide +kernel
theorem dX1_edgeCount_4 : decode cX1_edgeCount 4 = .ok (.iload_n 2, 1) := by decide +kernel
theorem dX1_edgeCount_5 : decode cX1_edgeCount 5 = .ok (.aload_n 0, 1) := by decide +kernel
theorem dX1_edgeCount_6 : decode cX1_edgeCount 6 = .ok (.getfield 33, 3) := by decide +kernel
theorem dX1_edgeCount_9 : decode cX1_edgeCount 9 = .ok (.if_icmp .ge 39, 3) := by decide +kernel
theorem dX1_edgeCount_12 : decode cX1_edgeCount 12 = .ok (.iload_n 2, 1) := by decide +kernel
theorem dX1_edgeCount_13 : decode cX1_edgeCount 13 = .ok (.iconst 1, 1) := by decide +kernel
theorem dX1_edgeCount_14 : decode cX1_edgeCount 14 = .ok (.iadd, 1) := by decide +kernel
theorem dX1_edgeCount_15 : decode cX1_edgeCount 15 = .ok (.istore_n 3, 1) := by decide +kernel
theorem dX1_edgeCount_16 : decode cX1_edgeCount 16 = .ok (.iload_n 3, 1) := by decide +kernel
theorem dX1_edgeCount_17 : decode cX1_edgeCount 17 = .ok (.aload_n 0, 1) := by decide +kernel
theorem dX1_edgeCount_18 : decode cX1_edgeCount 18 = .ok (.getfield 33, 3) := by decide +kernel
theorem dX1_edgeCount_21 : decode cX1_edgeCount 21 = .ok (.if_icmp .ge 21, 3) := by decide +kernel
theorem dX1_edgeCount_24 : decode cX1_edgeCount 24 = .ok (.aload_n 0, 1) := by decide +kernel
theorem dX1_edgeCount_25 : decode cX1_edgeCount 25 = .ok (.iload_n 2, 1) := by decide +kernel
theorem dX1_edgeCount_26 : decode cX1_edgeCount 26 = .ok (.iload_n 3, 1) := by decide +kernel
theorem dX1_edgeCount_27 : decode cX1_edgeCount 27 = .ok (.invokevirtual 60, 3) := by decide +kernel
theorem dX1_edgeCount_30 : decode cX1_edgeCount 30 = .ok (.ifCond .eq 6, 3) := by decide +kernel
theorem dX1_edgeCount_33 : decode cX1_edgeCount 33 = .ok (.iinc 1 1, 3) := by decide +kernel
theorem dX1_edgeCount_36 : decode cX1_edgeCount 36 = .ok (.iinc 3 1, 3) := by decide +kernel
theorem dX1_edgeCount_39 : decode cX1_edgeCount 39 = .ok (.goto (-23), 3) := by decide +kernel
theorem dX1_edgeCount_42 : decode cX1_edgeCount 42 = .ok (.iinc 2 1, 3) := by decide +kernel
theorem dX1_edgeCount_45 : decode cX1_edgeCount 45 = .ok (.goto (-41), 3) := by decide +kernel
theorem dX1_edgeCount_48 : decode cX1_edgeCount 48 = .ok (.iload_n 1, 1) := by decide +kernel
theorem dX1_edgeCount_49 : decode cX1_edgeCount 49 = .ok (.ireturn, 1) := by decide +kernel
theorem dX2_init_0 : decode cX2_init 0 = .ok (.aload_n 0, 1) := by decide +kernel
theorem dX2_init_1 : decode cX2_init 1 = .ok (.invokespecial 1, 3) := by decide +kernel
theorem dX2_init_4 : decode cX2_init 4 = .ok (.aload_n 0, 1) := by decide +kernel
theorem dX2_init_5 : decode cX2_init 5 = .ok (.bipush 14, 2) := by decide +kernel
theorem dX2_init_7 : decode cX2_init 7 = .ok (.anewarray 9, 3) := by decide +kernel
theorem dX2_init_10 : decode cX2_init 10 = .ok (.putfield 11, 3) := by decide +kernel
theorem dX2_init_13 : decode cX2_init 13 = .ok (.iconst 0, 1) := by decide +kernel
theorem dX2_init_14 : decode cX2_init 14 = .ok (.istore_n 1, 1) := by decide +kernel
theorem dX2_init_15 : decode cX2_init 15 = .ok (.iload_n 1, 1) := by decide +kernel
theorem dX2_init_16 : decode cX2_init 16 = .ok (.bipush 14, 2) := by decide +kernel
theorem dX2_init_18 : decode cX2_init 18 = .ok (.if_icmp .ge 22, 3) := by decide +kernel
theorem dX2_init_21 : decode cX2_init 21 = .ok (.aload_n 0, 1) := by decide +kernel
theorem dX2_init_22 : decode cX2_init 22 = .ok (.getfield 11, 3) := by decide +kernel
theorem dX2_init_25 : decode cX2_init 25 = .ok (.iload_n 1, 1) := by decide +kernel
theorem dX2_init_26 : decode cX2_init 26 = .ok (.new 9, 3) := by decide +kernel
theorem dX2_init_29 : decode cX2_init 29 = .ok (.dup, 1) := by decide +kernel
theorem dX2_init_30 : decode cX2_init 30 = .ok (.invokespecial 15, 3) := by decide +kernel
theorem dX2_init_33 : decode cX2_init 33 = .ok (.aastore, 1) := by decide +kernel
theorem dX2_init_34 : decode cX2_init 34 = .ok (.iinc 1 1, 3) := by decide +kernel
theorem dX2_init_37 : decode cX2_init 37 = .ok (.goto (-22), 3) := by decide +kernel
theorem dX2_init_40 : decode cX2_init 40 = .ok (.return_, 1) := by decide +kernel
theorem dX2_size_0 : decode cX2_size 0 = .ok (.aload_n 0, 1) := by decide +kernel
theorem dX2_size_1 : decode cX2_size 1 = .ok (.getfield 16, 3) := by decide +kernel
theorem dX2_size_4 : decode cX2_size 4 = .ok (.ireturn, 1) := by decide +kernel
theorem dX2_remember_0 : decode cX2_remember 0 = .ok (.aload_n 0, 1) := by decide +kernel
theorem dX2_remember_1 : decode cX2_remember 1 = .ok (.getfield 11, 3) := by decide +kernel
theorem dX2_remember_4 : decode cX2_remember 4 = .ok (.aload_n 0, 1) := by decide +kernel
theorem dX2_remember_5 : decode cX2_remember 5 = .ok (.getfield 20, 3) := by decide +kernel
theorem dX2_remember_8 : decode cX2_remember 8 = .ok (.aaload, 1) := by decide +kernel
theorem dX2_remember_9 : decode cX2_remember 9 = .ok (.aload_n 1, 1) := by decide +kernel
theorem dX2_remember_10 : decode cX2_remember 10 = .ok (.invokevirtual 23, 3) := by decide +kernel
theorem dX2_remember_13 : decode cX2_remember 13 = .ok (.aload_n 0, 1) := by decide +kernel
theorem dX2_remember_14 : decode cX2_remember 14 = .ok (.aload_n 0, 1) := by decide +kernel
theorem dX2_remember_15 : decode cX2_remember 15 = .ok (.getfield 20, 3) := by decide +kernel
theorem dX2_remember_18 : decode cX2_remember 18 = .ok (.iconst 1, 1) := by decide +kernel
theorem dX2_remember_19 : decode cX2_remember 19 = .ok (.iadd, 1) := by decide +kernel
theorem dX2_remember_20 : decode cX2_remember 20 = .ok (.bipush 14, 2) := by decide +kernel
theorem dX2_remember_22 : decode cX2_remember 22 = .ok (.irem, 1) := by decide +kernel
theorem dX2_remember_23 : decode cX2_remember 23 = .ok (.putfield 20, 3) := by decide +kernel
theorem dX2_remember_26 : decode cX2_remember 26 = .ok (.aload_n 0, 1) := by decide +kernel
theorem dX2_remember_27 : decode cX2_remember 27 = .ok (.aload_n 0, 1) := by decide +kernel
theorem dX2_remember_28 : decode cX2_remember 28 = .ok (.getfield 16, 3) := by decide +kernel
theorem dX2_remember_31 : decode cX2_remember 31 = .ok (.iconst 1, 1) := by decide +kernel
theorem dX2_remember_32 : decode cX2_remember 32 = .ok (.iadd, 1) := by decide +kernel
theorem dX2_remember_33 : decode cX2_remember 33 = .ok (.bipush 14, 2) := by decide +kernel
theorem dX2_remember_35 : decode cX2_remember 35 = .ok (.invokestatic 27, 3) := by decide +kernel
theorem dX2_remember_38 : decode cX2_remember 38 = .ok (.putfield 16, 3) := by decide +kernel
theorem dX2_remember_41 : decode cX2_remember 41 = .ok (.return_, 1) := by decide +kernel
theorem dX2_takeBack_0 : decode cX2_takeBack 0 = .ok (.aload_n 0, 1) := by decide +kernel
theorem dX2_takeBack_1 : decode cX2_takeBack 1 = .ok (.getfield 16, 3) := by decide +kernel
theorem dX2_takeBack_4 : decode cX2_takeBack 4 = .ok (.ifCond .ne 5, 3) := by decide +kernel
theorem dX2_takeBack_7 : decode cX2_takeBack 7 = .ok (.iconst 0, 1) := by decide +kernel
theorem dX2_takeBack_8 : decode cX2_takeBack 8 = .ok (.ireturn, 1) := by decide +kernel
theorem dX2_takeBack_9 : decode cX2_takeBack 9 = .ok (.aload_n 0, 1) := by decide +kernel
theorem dX2_takeBack_10 : decode cX2_takeBack 10 = .ok (.aload_n 0, 1) := by decide +kernel
theorem dX2_takeBack_11 : decode cX2_takeBack 11 = .ok (.getfield 20, 3) := by decide +kernel
theorem dX2_takeBack_14 : decode cX2_takeBack 14 = .ok (.bipush 14, 2) := by decide +kernel
theorem dX2_takeBack_16 : decode cX2_takeBack 16 = .ok (.iadd, 1) := by decide +kernel
theorem dX2_takeBack_17 : decode cX2_takeBack 17 = .ok (.iconst 1, 1) := by decide +kernel
theorem dX2_takeBack_18 : decode cX2_takeBack 18 = .ok (.isub, 1) := by decide +kernel
theorem dX2_takeBack_19 : decode cX2_takeBack 19 = .ok (.bipush 14, 2) := by decide +kernel
theorem dX2_takeBack_21 : decode cX2_takeBack 21 = .ok (.irem, 1) := by decide +kernel
theorem dX2_takeBack_22 : decode cX2_takeBack 22 = .ok (.putfield 20, 3) := by decide +kernel
theorem dX2_takeBack_25 : decode cX2_takeBack 25 = .ok (.aload_n 0, 1) := by decide +kernel
theorem dX2_takeBack_26 : decode cX2_takeBack 26 = .ok (.dup, 1) := by decide +kernel
theorem dX2_takeBack_27 : decode cX2_takeBack 27 = .ok (.getfield 16, 3) := by decide +kernel
theorem dX2_takeBack_30 : decode cX2_takeBack 30 = .ok (.iconst 1, 1) := by decide +kernel
theorem dX2_takeBack_31 : decode cX2_takeBack 31 = .ok (.isub, 1) := by decide +kernel
theorem dX2_takeBack_32 : decode cX2_takeBack 32 = .ok (.putfield 16, 3) := by decide +kernel
theorem dX2_takeBack_35 : decode cX2_takeBack 35 = .ok (.aload_n 1, 1) := by decide +kernel
theorem dX2_takeBack_36 : decode cX2_takeBack 36 = .ok (.aload_n 0, 1) := by decide +kernel
theorem dX2_takeBack_37 : decode cX2_takeBack 37 = .ok (.getfield 11, 3) := by decide +kernel
theorem dX2_takeBack_40 : decode cX2_takeBack 40 = .ok (.aload_n 0, 1) := by decide +kernel
theorem dX2_takeBack_41 : decode cX2_takeBack 41 = .ok (.getfield 20, 3) := by decide +kernel
theorem dX2_takeBack_44 : decode cX2_takeBack 44 = .ok (.aaload, 1) := by decide +kernel
theorem dX2_takeBack_45 : decode cX2_takeBack 45 = .ok (.invokevirtual 23, 3) := by decide +kernel
theorem dX2_takeBack_48 : decode cX2_takeBack 48 = .ok (.iconst 1, 1) := by decide +kernel
theorem dX2_takeBack_49 : decode cX2_takeBack 49 = .ok (.ireturn, 1) := by decide +kernel
theorem dX2_forget_0 : decode cX2_forget 0 = .ok (.aload_n 0, 1) := by decide +kernel
theorem dX2_forget_1 : decode cX2_forget 1 = .ok (.iconst 0, 1) := by decide +kernel
theorem dX2_forget_2 : decode cX2_forget 2 = .ok (.putfield 16, 3) := by decide +kernel
theorem dX2_forget_5 : decode cX2_forget 5 = .ok (.return_, 1) := by decide +kernel
theorem dX3_init_0 : decode cX3_init 0 = .ok (.aload_n 0, 1) := by decide +kernel
theorem dX3_init_1 : decode cX3_init 1 = .ok (.invokespecial 3, 3) := by decide +kernel
theorem dX3_init_4 : decode cX3_init 4 = .ok (.aload_n 0, 1) := by decide +kernel
theorem dX3_init_5 : decode cX3_init 5 = .ok (.bipush 6, 2) := by decide +kernel
theorem dX3_init_7 : decode cX3_init 7 = .ok (.newarray .int, 2) := by decide +kernel
theorem dX3_init_9 : decode cX3_init 9 = .ok (.putfield 11, 3) := by decide +kernel
theorem dX3_init_12 : decode cX3_init 12 = .ok (.aload_n 0, 1) := by decide +kernel
theorem dX3_init_13 : decode cX3_init 13 = .ok (.bipush 6, 2) := by decide +kernel
theorem dX3_init_15 : decode cX3_init 15 = .ok (.newarray .int, 2) := by decide +kernel
theorem dX3_init_17 : decode cX3_init 17 = .ok (.putfield 15, 3) := by decide +kernel
theorem dX3_init_20 : decode cX3_init 20 = .ok (.aload_n 0, 1) := by decide +kernel
theorem dX3_init_21 : decode cX3_init 21 = .ok (.bipush 6, 2) := by decide +kernel
theorem dX3_init_23 : decode cX3_init 23 = .ok (.newarray .int, 2) := by decide +kernel
theorem dX3_init_25 : decode cX3_init 25 = .ok (.putfield 18, 3) := by decide +kernel
theorem dX3_init_28 : decode cX3_init 28 = .ok (.return_, 1) := by decide +kernel
theorem dX3_store_0 : decode cX3_store 0 = .ok (.aload_n 0, 1) := by decide +kernel
theorem dX3_store_1 : decode cX3_store 1 = .ok (.getfield 11, 3) := by decide +kernel
theorem dX3_store_4 : decode cX3_store 4 = .ok (.aload_n 0, 1) := by decide +kernel
theorem dX3_store_5 : decode cX3_store 5 = .ok (.getfield 21, 3) := by decide +kernel
theorem dX3_store_8 : decode cX3_store 8 = .ok (.iload_n 1, 1) := by decide +kernel
theorem dX3_store_9 : decode cX3_store 9 = .ok (.iastore, 1) := by decide +kernel
theorem dX3_store_10 : decode cX3_store 10 = .ok (.aload_n 0, 1) := by decide +kernel
theorem dX3_store_11 : decode cX3_store 11 = .ok (.getfield 15, 3) := by decide +kernel
theorem dX3_store_14 : decode cX3_store 14 = .ok (.aload_n 0, 1) := by decide +kernel
theorem dX3_store_15 : decode cX3_store 15 = .ok (.getfield 21, 3) := by decide +kernel
theorem dX3_store_18 : decode cX3_store 18 = .ok (.iload_n 2, 1) := by decide +kernel
theorem dX3_store_19 : decode cX3_store 19 = .ok (.iastore, 1) := by decide +kernel
theorem dX3_store_20 : decode cX3_store 20 = .ok (.aload_n 0, 1) := by decide +kernel
theorem dX3_store_21 : decode cX3_store 21 = .ok (.getfield 18, 3) := by decide +kernel
theorem dX3_store_24 : decode cX3_store 24 = .ok (.aload_n 0, 1) := by decide +kernel
theorem dX3_store_25 : decode cX3_store 25 = .ok (.getfield 21, 3) := by decide +kernel
theorem dX3_store_28 : decode cX3_store 28 = .ok (.iload_n 3, 1) := by decide +kernel
theorem dX3_store_29 : decode cX3_store 29 = .ok (.iastore, 1) := by decide +kernel
theorem dX3_store_30 : decode cX3_store 30 = .ok (.aload_n 0, 1) := by decide +kernel
theorem dX3_store_31 : decode cX3_store 31 = .ok (.aload_n 0, 1) := by decide +kernel
theorem dX3_store_32 : decode cX3_store 32 = .ok (.getfield 21, 3) := by decide +kernel
theorem dX3_store_35 : decode cX3_store 35 = .ok (.iconst 1, 1) := by decide +kernel
theorem dX3_store_36 : decode cX3_store 36 = .ok (.iadd, 1) := by decide +kernel
theorem dX3_store_37 : decode cX3_store 37 = .ok (.bipush 6, 2) := by decide +kernel
theorem dX3_store_39 : decode cX3_store 39 = .ok (.irem, 1) := by decide +kernel
theorem dX3_store_40 : decode cX3_store 40 = .ok (.putfield 21, 3) := by decide +kernel
theorem dX3_store_43 : decode cX3_store 43 = .ok (.aload_n 0, 1) := by decide +kernel
theorem dX3_store_44 : decode cX3_store 44 = .ok (.aload_n 0, 1) := by decide +kernel
theorem dX3_store_45 : decode cX3_store 45 = .ok (.getfield 25, 3) := by decide +kernel
theorem dX3_store_48 : decode cX3_store 48 = .ok (.iconst 1, 1) := by decide +kernel
theorem dX3_store_49 : decode cX3_store 49 = .ok (.iadd, 1) := by decide +kernel
theorem dX3_store_50 : decode cX3_store 50 = .ok (.bipush 6, 2) := by decide +kernel
theorem dX3_store_52 : decode cX3_store 52 = .ok (.invokestatic 28, 3) := by decide +kernel
theorem dX3_store_55 : decode cX3_store 55 = .ok (.putfield 25, 3) := by decide +kernel
theorem dX3_store_58 : decode cX3_store 58 = .ok (.aload_n 0, 1) := by decide +kernel
theorem dX3_store_59 : decode cX3_store 59 = .ok (.getfield 25, 3) := by decide +kernel
theorem dX3_store_62 : decode cX3_store 62 = .ok (.ireturn, 1) := by decide +kernel
theorem dX3_countWeights_0 : decode cX3_countWeights 0 = .ok (.iconst 1, 1) := by decide +kernel
theorem dX3_countWeights_1 : decode cX3_countWeights 1 = .ok (.istore 4, 2) := by decide +kernel
theorem dX3_countWeights_3 : decode cX3_countWeights 3 = .ok (.bipush 99, 2) := by decide +kernel
theorem dX3_countWeights_5 : decode cX3_countWeights 5 = .ok (.istore 5, 2) := by decide +kernel
theorem dX3_countWeights_7 : decode cX3_countWeights 7 = .ok (.iconst 0, 1) := by decide +kernel
theorem dX3_countWeights_8 : decode cX3_countWeights 8 = .ok (.istore 6, 2) := by decide +kernel
theorem dX3_countWeights_10 : decode cX3_countWeights 10 = .ok (.iload 6, 2) := by decide +kernel
theorem dX3_countWeights_12 : decode cX3_countWeights 12 = .ok (.aload_n 0, 1) := by decide +kernel
theorem dX3_countWeights_13 : decode cX3_countWeights 13 = .ok (.getfield 25, 3) := by decide +kernel
theorem dX3_countWeights_16 : decode cX3_countWeights 16 = .ok (.if_icmp .ge 122, 3) := by decide +kernel
theorem dX3_countWeights_19 : decode cX3_countWeights 19 = .ok (.aload_n 0, 1) := by decide +kernel
theorem dX3_countWeights_20 : decode cX3_countWeights 20 = .ok (.getfield 18, 3) := by decide +kernel
theorem dX3_countWeights_23 : decode cX3_countWeights 23 = .ok (.iload 6, 2) := by decide +kernel
theorem dX3_countWeights_25 : decode cX3_countWeights 25 = .ok (.iaload, 1) := by decide +kernel
theorem dX3_countWeights_26 : decode cX3_countWeights 26 = .ok (.aload_n 1, 1) := by decide +kernel
theorem dX3_countWeights_27 : decode cX3_countWeights 27 = .ok (.aload_n 0, 1) := by decide +kernel
theorem dX3_countWeights_28 : decode cX3_countWeights 28 = .ok (.getfield 11, 3) := by decide +kernel
theorem dX3_countWeights_31 : decode cX3_countWeights 31 = .ok (.iload 6, 2) := by decide +kernel
theorem dX3_countWeights_33 : decode cX3_countWeights 33 = .ok (.iaload, 1) := by decide +kernel
theorem dX3_countWeights_34 : decode cX3_countWeights 34 = .ok (.aload_n 0, 1) := by decide +kernel
theorem dX3_countWeights_35 : decode cX3_countWeights 35 = .ok (.getfield 15, 3) := by decide +kernel
theorem dX3_countWeights_38 : decode cX3_countWeights 38 = .ok (.iload 6, 2) := by decide +kernel
theorem dX3_countWeights_40 : decode cX3_countWeights 40 = .ok (.iaload, 1) := by decide +kernel
theorem dX3_countWeights_41 : decode cX3_countWeights 41 = .ok (.invokevirtual 34, 3) := by decide +kernel
theorem dX3_countWeights_44 : decode cX3_countWeights 44 = .ok (.isub, 1) := by decide +kernel
theorem dX3_countWeights_45 : decode cX3_countWeights 45 = .ok (.istore 7, 2) := by decide +kernel
theorem dX3_countWeights_47 : decode cX3_countWeights 47 = .ok (.aload_n 1, 1) := by decide +kernel
theorem dX3_countWeights_48 : decode cX3_countWeights 48 = .ok (.aload_n 0, 1) := by decide +kernel
theorem dX3_countWeights_49 : decode cX3_countWeights 49 = .ok (.getfield 11, 3) := by decide +kernel
theorem dX3_countWeights_52 : decode cX3_countWeights 52 = .ok (.iload 6, 2) := by decide +kernel
theorem dX3_countWeights_54 : decode cX3_countWeights 54 = .ok (.iaload, 1) := by decide +kernel
theorem dX3_countWeights_55 : decode cX3_countWeights 55 = .ok (.aload_n 0, 1) := by decide +kernel
theorem dX3_countWeights_56 : decode cX3_countWeights 56 = .ok (.getfield 15, 3) := by decide +kernel
theorem dX3_countWeights_59 : decode cX3_countWeights 59 = .ok (.iload 6, 2) := by decide +kernel
theorem dX3_countWeights_61 : decode cX3_countWeights 61 = .ok (.iaload, 1) := by decide +kernel
theorem dX3_countWeights_62 : decode cX3_countWeights 62 = .ok (.invokevirtual 39, 3) := by decide +kernel
theorem dX3_countWeights_65 : decode cX3_countWeights 65 = .ok (.ifCond .ne 5, 3) := by decide +kernel
theorem dX3_countWeights_68 : decode cX3_countWeights 68 = .ok (.iconst 0, 1) := by decide +kernel
theorem dX3_countWeights_69 : decode cX3_countWeights 69 = .ok (.ireturn, 1) := by decide +kernel
theorem dX3_countWeights_70 : decode cX3_countWeights 70 = .ok (.aload_n 1, 1) := by decide +kernel
theorem dX3_countWeights_71 : decode cX3_countWeights 71 = .ok (.aload_n 0, 1) := by decide +kernel
theorem dX3_countWeights_72 : decode cX3_countWeights 72 = .ok (.getfield 11, 3) := by decide +kernel
theorem dX3_countWeights_75 : decode cX3_countWeights 75 = .ok (.iload 6, 2) := by decide +kernel
theorem dX3_countWeights_77 : decode cX3_countWeights 77 = .ok (.iaload, 1) := by decide +kernel
theorem dX3_countWeights_78 : decode cX3_countWeights 78 = .ok (.aload_n 0, 1) := by decide +kernel
theorem dX3_countWeights_79 : decode cX3_countWeights 79 = .ok (.getfield 15, 3) := by decide +kernel
theorem dX3_countWeights_82 : decode cX3_countWeights 82 = .ok (.iload 6, 2) := by decide +kernel
theorem dX3_countWeights_84 : decode cX3_countWeights 84 = .ok (.iaload, 1) := by decide +kernel
theorem dX3_countWeights_85 : decode cX3_countWeights 85 = .ok (.iload_n 2, 1) := by decide +kernel
theorem dX3_countWeights_86 : decode cX3_countWeights 86 = .ok (.iload_n 3, 1) := by decide +kernel
theorem dX3_countWeights_87 : decode cX3_countWeights 87 = .ok (.invokevirtual 43, 3) := by decide +kernel
theorem dX3_countWeights_90 : decode cX3_countWeights 90 = .ok (.ifCond .eq 35, 3) := by decide +kernel
theorem dX3_countWeights_93 : decode cX3_countWeights 93 = .ok (.aload_n 1, 1) := by decide +kernel
theorem dX3_countWeights_94 : decode cX3_countWeights 94 = .ok (.iload_n 2, 1) := by decide +kernel
theorem dX3_countWeights_95 : decode cX3_countWeights 95 = .ok (.iload_n 3, 1) := by decide +kernel
theorem dX3_countWeights_96 : decode cX3_countWeights 96 = .ok (.invokevirtual 47, 3) := by decide +kernel
theorem dX3_countWeights_99 : decode cX3_countWeights 99 = .ok (.iload 7, 2) := by decide +kernel
theorem dX3_countWeights_101 : decode cX3_countWeights 101 = .ok (.iadd, 1) := by decide +kernel
theorem dX3_countWeights_102 : decode cX3_countWeights 102 = .ok (.istore 8, 2) := by decide +kernel
theorem dX3_countWeights_104 : decode cX3_countWeights 104 = .ok (.iload 4, 2) := by decide +kernel
theorem dX3_countWeights_106 : decode cX3_countWeights 106 = .ok (.iload 8, 2) := by decide +kernel
theorem dX3_countWeights_108 : decode cX3_countWeights 108 = .ok (.invokestatic 50, 3) := by decide +kernel
theorem dX3_countWeights_111 : decode cX3_countWeights 111 = .ok (.istore 4, 2) := by decide +kernel
theorem dX3_countWeights_113 : decode cX3_countWeights 113 = .ok (.iload 5, 2) := by decide +kernel
theorem dX3_countWeights_115 : decode cX3_countWeights 115 = .ok (.iload 8, 2) := by decide +kernel
theorem dX3_countWeights_117 : decode cX3_countWeights 117 = .ok (.invokestatic 28, 3) := by decide +kernel
theorem dX3_countWeights_120 : decode cX3_countWeights 120 = .ok (.istore 5, 2) := by decide +kernel
theorem dX3_countWeights_122 : decode cX3_countWeights 122 = .ok (.goto 10, 3) := by decide +kernel
theorem dX3_countWeights_125 : decode cX3_countWeights 125 = .ok (.iload 7, 2) := by decide +kernel
theorem dX3_countWeights_127 : decode cX3_countWeights 127 = .ok (.ifCond .eq 5, 3) := by decide +kernel
theorem dX3_countWeights_130 : decode cX3_countWeights 130 = .ok (.iconst 0, 1) := by decide +kernel
theorem dX3_countWeights_131 : decode cX3_countWeights 131 = .ok (.ireturn, 1) := by decide +kernel
theorem dX3_countWeights_132 : decode cX3_countWeights 132 = .ok (.iinc 6 1, 3) := by decide +kernel
theorem dX3_countWeights_135 : decode cX3_countWeights 135 = .ok (.goto (-125), 3) := by decide +kernel
theorem dX3_countWeights_138 : decode cX3_countWeights 138 = .ok (.iconst 0, 1) := by decide +kernel
theorem dX3_countWeights_139 : decode cX3_countWeights 139 = .ok (.iload 5, 2) := by decide +kernel
theorem dX3_countWeights_141 : decode cX3_countWeights 141 = .ok (.iload 4, 2) := by decide +kernel
theorem dX3_countWeights_143 : decode cX3_countWeights 143 = .ok (.isub, 1) := by decide +kernel
theorem dX3_countWeights_144 : decode cX3_countWeights 144 = .ok (.iconst 1, 1) := by decide +kernel
theorem dX3_countWeights_145 : decode cX3_countWeights 145 = .ok (.iadd, 1) := by decide +kernel
theorem dX3_countWeights_146 : decode cX3_countWeights 146 = .ok (.invokestatic 50, 3) := by decide +kernel
theorem dX3_countWeights_149 : decode cX3_countWeights 149 = .ok (.ireturn, 1) := by decide +kernel
theorem dX4_init_0 : decode cX4_init 0 = .ok (.aload_n 0, 1) := by decide +kernel
theorem dX4_init_1 : decode cX4_init 1 = .ok (.invokespecial 3, 3) := by decide +kernel
theorem dX4_init_4 : decode cX4_init 4 = .ok (.aload_n 0, 1) := by decide +kernel
theorem dX4_init_5 : decode cX4_init 5 = .ok (.bipush 80, 2) := by decide +kernel
theorem dX4_init_7 : decode cX4_init 7 = .ok (.newarray .int, 2) := by decide +kernel
theorem dX4_init_9 : decode cX4_init 9 = .ok (.putfield 11, 3) := by decide +kernel
theorem dX4_init_12 : decode cX4_init 12 = .ok (.aload_n 0, 1) := by decide +kernel
theorem dX4_init_13 : decode cX4_init 13 = .ok (.bipush 12, 2) := by decide +kernel
theorem dX4_init_15 : decode cX4_init 15 = .ok (.newarray .int, 2) := by decide +kernel
theorem dX4_init_17 : decode cX4_init 17 = .ok (.putfield 15, 3) := by decide +kernel
theorem dX4_init_20 : decode cX4_init 20 = .ok (.return_, 1) := by decide +kernel
theorem dX4_size_0 : decode cX4_size 0 = .ok (.aload_n 0, 1) := by decide +kernel
theorem dX4_size_1 : decode cX4_size 1 = .ok (.getfield 18, 3) := by decide +kernel
theorem dX4_size_4 : decode cX4_size 4 = .ok (.ireturn, 1) := by decide +kernel
theorem dX4_put_0 : decode cX4_put 0 = .ok (.aload_n 0, 1) := by decide +kernel
theorem dX4_put_1 : decode cX4_put 1 = .ok (.getfield 18, 3) := by decide +kernel
theorem dX4_put_4 : decode cX4_put 4 = .ok (.bipush 80, 2) := by decide +kernel
theorem dX4_put_6 : decode cX4_put 6 = .ok (.if_icmp .lt 5, 3) := by decide +kernel
theorem dX4_put_9 : decode cX4_put 9 = .ok (.iconst 0, 1) := by decide +kernel
theorem dX4_put_10 : decode cX4_put 10 = .ok (.ireturn, 1) := by decide +kernel
theorem dX4_put_11 : decode cX4_put 11 = .ok (.aload_n 0, 1) := by decide +kernel
theorem dX4_put_12 : decode cX4_put 12 = .ok (.getfield 11, 3) := by decide +kernel
theorem dX4_put_15 : decode cX4_put 15 = .ok (.aload_n 0, 1) := by decide +kernel
theorem dX4_put_16 : decode cX4_put 16 = .ok (.getfield 18, 3) := by decide +kernel
theorem dX4_put_19 : decode cX4_put 19 = .ok (.iload_n 1, 1) := by decide +kernel
theorem dX4_put_20 : decode cX4_put 20 = .ok (.iastore, 1) := by decide +kernel
theorem dX4_put_21 : decode cX4_put 21 = .ok (.aload_n 0, 1) := by decide +kernel
theorem dX4_put_22 : decode cX4_put 22 = .ok (.dup, 1) := by decide +kernel
theorem dX4_put_23 : decode cX4_put 23 = .ok (.getfield 18, 3) := by decide +kernel
theorem dX4_put_26 : decode cX4_put 26 = .ok (.iconst 1, 1) := by decide +kernel
theorem dX4_put_27 : decode cX4_put 27 = .ok (.iadd, 1) := by decide +kernel
theorem dX4_put_28 : decode cX4_put 28 = .ok (.putfield 18, 3) := by decide +kernel
theorem dX4_put_31 : decode cX4_put 31 = .ok (.iconst 1, 1) := by decide +kernel
theorem dX4_put_32 : decode cX4_put 32 = .ok (.ireturn, 1) := by decide +kernel
theorem dX4_empty_0 : decode cX4_empty 0 = .ok (.aload_n 0, 1) := by decide +kernel
theorem dX4_empty_1 : decode cX4_empty 1 = .ok (.iconst 0, 1) := by decide +kernel
theorem dX4_empty_2 : decode cX4_empty 2 = .ok (.putfield 18, 3) := by decide +kernel
theorem dX4_empty_5 : decode cX4_empty 5 = .ok (.return_, 1) := by decide +kernel
theorem dX4_readInto_0 : decode cX4_readInto 0 = .ok (.aload_n 0, 1) := by decide +kernel
theorem dX4_readInto_1 : decode cX4_readInto 1 = .ok (.iconst 0, 1) := by decide +kernel
theorem dX4_readInto_2 : decode cX4_readInto 2 = .ok (.putfield 22, 3) := by decide +kernel
theorem dX4_readInto_5 : decode cX4_readInto 5 = .ok (.aload_n 0, 1) := by decide +kernel
theorem dX4_readInto_6 : decode cX4_readInto 6 = .ok (.bipush 70, 2) := by decide +kernel
theorem dX4_readInto_8 : decode cX4_readInto 8 = .ok (.bipush 70, 2) := by decide +kernel
theorem dX4_readInto_10 : decode cX4_readInto 10 = .ok (.invokevirtual 25, 3) := by decide +kernel
theorem dX4_readInto_13 : decode cX4_readInto 13 = .ok (.iconst (-1), 1) := by decide +kernel
theorem dX4_readInto_14 : decode cX4_readInto 14 = .ok (.if_icmp .ne 8, 3) := by decide +kernel
theorem dX4_readInto_17 : decode cX4_readInto 17 = .ok (.aload_n 0, 1) := by decide +kernel
theorem dX4_readInto_18 : decode cX4_readInto 18 = .ok (.getfield 22, 3) := by decide +kernel
theorem dX4_readInto_21 : decode cX4_readInto 21 = .ok (.ireturn, 1) := by decide +kernel
theorem dX4_readInto_22 : decode cX4_readInto 22 = .ok (.aload_n 0, 1) := by decide +kernel
theorem dX4_readInto_23 : decode cX4_readInto 23 = .ok (.iconst 1, 1) := by decide +kernel
theorem dX4_readInto_24 : decode cX4_readInto 24 = .ok (.bipush 12, 2) := by decide +kernel
theorem dX4_readInto_26 : decode cX4_readInto 26 = .ok (.invokevirtual 29, 3) := by decide +kernel
theorem dX4_readInto_29 : decode cX4_readInto 29 = .ok (.istore_n 2, 1) := by decide +kernel
theorem dX4_readInto_30 : decode cX4_readInto 30 = .ok (.iload_n 2, 1) := by decide +kernel
theorem dX4_readInto_31 : decode cX4_readInto 31 = .ok (.iconst (-1), 1) := by decide +kernel
theorem dX4_readInto_32 : decode cX4_readInto 32 = .ok (.if_icmp .ne 8, 3) := by decide +kernel
theorem dX4_readInto_35 : decode cX4_readInto 35 = .ok (.aload_n 0, 1) := by decide +kernel
theorem dX4_readInto_36 : decode cX4_readInto 36 = .ok (.getfield 22, 3) := by decide +kernel
theorem dX4_readInto_39 : decode cX4_readInto 39 = .ok (.ireturn, 1) := by decide +kernel
theorem dX4_readInto_40 : decode cX4_readInto 40 = .ok (.aload_n 1, 1) := by decide +kernel
theorem dX4_readInto_41 : decode cX4_readInto 41 = .ok (.iload_n 2, 1) := by decide +kernel
theorem dX4_readInto_42 : decode cX4_readInto 42 = .ok (.invokevirtual 32, 3) := by decide +kernel
theorem dX4_readInto_45 : decode cX4_readInto 45 = .ok (.aload_n 0, 1) := by decide +kernel
theorem dX4_readInto_46 : decode cX4_readInto 46 = .ok (.aload_n 1, 1) := by decide +kernel
theorem dX4_readInto_47 : decode cX4_readInto 47 = .ok (.invokevirtual 38, 3) := by decide +kernel
theorem dX4_readInto_50 : decode cX4_readInto 50 = .ok (.ifCond .eq 16, 3) := by decide +kernel
theorem dX4_readInto_53 : decode cX4_readInto 53 = .ok (.aload_n 0, 1) := by decide +kernel
theorem dX4_readInto_54 : decode cX4_readInto 54 = .ok (.aload_n 1, 1) := by decide +kernel
theorem dX4_readInto_55 : decode cX4_readInto 55 = .ok (.invokevirtual 42, 3) := by decide +kernel
theorem dX4_readInto_58 : decode cX4_readInto 58 = .ok (.ifCond .eq 8, 3) := by decide +kernel
theorem dX4_readInto_61 : decode cX4_readInto 61 = .ok (.bipush (-9), 2) := by decide +kernel
theorem dX4_readInto_63 : decode cX4_readInto 63 = .ok (.goto 7, 3) := by decide +kernel
theorem dX4_readInto_66 : decode cX4_readInto 66 = .ok (.aload_n 0, 1) := by decide +kernel
theorem dX4_readInto_67 : decode cX4_readInto 67 = .ok (.getfield 22, 3) := by decide +kernel
theorem dX4_readInto_70 : decode cX4_readInto 70 = .ok (.ireturn, 1) := by decide +kernel
theorem dX4_takeWeights_0 : decode cX4_takeWeights 0 = .ok (.iconst 0, 1) := by decide +kernel
theorem dX4_takeWeights_1 : decode cX4_takeWeights 1 = .ok (.istore_n 2, 1) := by decide +kernel
theorem dX4_takeWeights_2 : decode cX4_takeWeights 2 = .ok (.iload_n 2, 1) := by decide +kernel
theorem dX4_takeWeights_3 : decode cX4_takeWeights 3 = .ok (.aload_n 1, 1) := by decide +kernel
theorem dX4_takeWeights_4 : decode cX4_takeWeights 4 = .ok (.invokevirtual 45, 3) := by decide +kernel
theorem dX4_takeWeights_7 : decode cX4_takeWeights 7 = .ok (.if_icmp .ge 30, 3) := by decide +kernel
theorem dX4_takeWeights_10 : decode cX4_takeWeights 10 = .ok (.aload_n 0, 1) := by decide +kernel
theorem dX4_takeWeights_11 : decode cX4_takeWeights 11 = .ok (.iconst 0, 1) := by decide +kernel
theorem dX4_takeWeights_12 : decode cX4_takeWeights 12 = .ok (.bipush 99, 2) := by decide +kernel
theorem dX4_takeWeights_14 : decode cX4_takeWeights 14 = .ok (.invokevirtual 29, 3) := by decide +kernel
theorem dX4_takeWeights_17 : decode cX4_takeWeights 17 = .ok (.istore_n 3, 1) := by decide +kernel
theorem dX4_takeWeights_18 : decode cX4_takeWeights 18 = .ok (.iload_n 3, 1) := by decide +kernel
theorem dX4_takeWeights_19 : decode cX4_takeWeights 19 = .ok (.iconst (-1), 1) := by decide +kernel
theorem dX4_takeWeights_20 : decode cX4_takeWeights 20 = .ok (.if_icmp .ne 5, 3) := by decide +kernel
theorem dX4_takeWeights_23 : decode cX4_takeWeights 23 = .ok (.iconst 0, 1) := by decide +kernel
theorem dX4_takeWeights_24 : decode cX4_takeWeights 24 = .ok (.ireturn, 1) := by decide +kernel
theorem dX4_takeWeights_25 : decode cX4_takeWeights 25 = .ok (.aload_n 1, 1) := by decide +kernel
theorem dX4_takeWeights_26 : decode cX4_takeWeights 26 = .ok (.iload_n 2, 1) := by decide +kernel
theorem dX4_takeWeights_27 : decode cX4_takeWeights 27 = .ok (.iload_n 3, 1) := by decide +kernel
theorem dX4_takeWeights_28 : decode cX4_takeWeights 28 = .ok (.invokevirtual 49, 3) := by decide +kernel
theorem dX4_takeWeights_31 : decode cX4_takeWeights 31 = .ok (.iinc 2 1, 3) := by decide +kernel
theorem dX4_takeWeights_34 : decode cX4_takeWeights 34 = .ok (.goto (-32), 3) := by decide +kernel
theorem dX4_takeWeights_37 : decode cX4_takeWeights 37 = .ok (.iconst 1, 1) := by decide +kernel
theorem dX4_takeWeights_38 : decode cX4_takeWeights 38 = .ok (.ireturn, 1) := by decide +kernel
theorem dX4_takeEdges_0 : decode cX4_takeEdges 0 = .ok (.iconst 0, 1) := by decide +kernel
theorem dX4_takeEdges_1 : decode cX4_takeEdges 1 = .ok (.istore_n 2, 1) := by decide +kernel
theorem dX4_takeEdges_2 : decode cX4_takeEdges 2 = .ok (.iload_n 2, 1) := by decide +kernel
theorem dX4_takeEdges_3 : decode cX4_takeEdges 3 = .ok (.bipush 12, 2) := by decide +kernel
theorem dX4_takeEdges_5 : decode cX4_takeEdges 5 = .ok (.if_icmp .ge 16, 3) := by decide +kernel
theorem dX4_takeEdges_8 : decode cX4_takeEdges 8 = .ok (.aload_n 0, 1) := by decide +kernel
theorem dX4_takeEdges_9 : decode cX4_takeEdges 9 = .ok (.getfield 15, 3) := by decide +kernel
theorem dX4_takeEdges_12 : decode cX4_takeEdges 12 = .ok (.iload_n 2, 1) := by decide +kernel
theorem dX4_takeEdges_13 : decode cX4_takeEdges 13 = .ok (.iload_n 2, 1) := by decide +kernel
theorem dX4_takeEdges_14 : decode cX4_takeEdges 14 = .ok (.iastore, 1) := by decide +kernel
theorem dX4_takeEdges_15 : decode cX4_takeEdges 15 = .ok (.iinc 2 1, 3) := by decide +kernel
theorem dX4_takeEdges_18 : decode cX4_takeEdges 18 = .ok (.goto (-16), 3) := by decide +kernel
theorem dX4_takeEdges_21 : decode cX4_takeEdges 21 = .ok (.iconst 0, 1) := by decide +kernel
theorem dX4_takeEdges_22 : decode cX4_takeEdges 22 = .ok (.istore_n 2, 1) := by decide +kernel
theorem dX4_takeEdges_23 : decode cX4_takeEdges 23 = .ok (.iload_n 2, 1) := by decide +kernel
theorem dX4_takeEdges_24 : decode cX4_takeEdges 24 = .ok (.bipush 12, 2) := by decide +kernel
theorem dX4_takeEdges_26 : decode cX4_takeEdges 26 = .ok (.if_icmp .ge 30, 3) := by decide +kernel
theorem dX4_takeEdges_29 : decode cX4_takeEdges 29 = .ok (.aload_n 0, 1) := by decide +kernel
theorem dX4_takeEdges_30 : decode cX4_takeEdges 30 = .ok (.getfield 22, 3) := by decide +kernel
theorem dX4_takeEdges_33 : decode cX4_takeEdges 33 = .ok (.aload_n 0, 1) := by decide +kernel
theorem dX4_takeEdges_34 : decode cX4_takeEdges 34 = .ok (.getfield 18, 3) := by decide +kernel
theorem dX4_takeEdges_37 : decode cX4_takeEdges 37 = .ok (.if_icmp .ge 19, 3) := by decide +kernel
theorem dX4_takeEdges_40 : decode cX4_takeEdges 40 = .ok (.aload_n 0, 1) := by decide +kernel
theorem dX4_takeEdges_41 : decode cX4_takeEdges 41 = .ok (.aload_n 1, 1) := by decide +kernel
theorem dX4_takeEdges_42 : decode cX4_takeEdges 42 = .ok (.invokevirtual 53, 3) := by decide +kernel
theorem dX4_takeEdges_45 : decode cX4_takeEdges 45 = .ok (.ifCond .ne 5, 3) := by decide +kernel
theorem dX4_takeEdges_48 : decode cX4_takeEdges 48 = .ok (.iconst 0, 1) := by decide +kernel
theorem dX4_takeEdges_49 : decode cX4_takeEdges 49 = .ok (.ireturn, 1) := by decide +kernel
theorem dX4_takeEdges_50 : decode cX4_takeEdges 50 = .ok (.iinc 2 1, 3) := by decide +kernel
theorem dX4_takeEdges_53 : decode cX4_takeEdges 53 = .ok (.goto (-30), 3) := by decide +kernel
theorem dX4_takeEdges_56 : decode cX4_takeEdges 56 = .ok (.iconst 1, 1) := by decide +kernel
theorem dX4_takeEdges_57 : decode cX4_takeEdges 57 = .ok (.ireturn, 1) := by decide +kernel
theorem dX4_takeEdge_0 : decode cX4_takeEdge 0 = .ok (.bipush 97, 2) := by decide +kernel
theorem dX4_takeEdge_2 : decode cX4_takeEdge 2 = .ok (.aload_n 1, 1) := by decide +kernel
theorem dX4_takeEdge_3 : decode cX4_takeEdge 3 = .ok (.invokevirtual 45, 3) := by decide +kernel
theorem dX4_takeEdge_6 : decode cX4_takeEdge 6 = .ok (.iadd, 1) := by decide +kernel
theorem dX4_takeEdge_7 : decode cX4_takeEdge 7 = .ok (.iconst 1, 1) := by decide +kernel
theorem dX4_takeEdge_8 : decode cX4_takeEdge 8 = .ok (.isub, 1) := by decide +kernel
theorem dX4_takeEdge_9 : decode cX4_takeEdge 9 = .ok (.istore_n 2, 1) := by decide +kernel
theorem dX4_takeEdge_10 : decode cX4_takeEdge 10 = .ok (.aload_n 0, 1) := by decide +kernel
theorem dX4_takeEdge_11 : decode cX4_takeEdge 11 = .ok (.bipush 97, 2) := by decide +kernel
theorem dX4_takeEdge_13 : decode cX4_takeEdge 13 = .ok (.iload_n 2, 1) := by decide +kernel
theorem dX4_takeEdge_14 : decode cX4_takeEdge 14 = .ok (.invokevirtual 25, 3) := by decide +kernel
theorem dX4_takeEdge_17 : decode cX4_takeEdge 17 = .ok (.istore_n 3, 1) := by decide +kernel
theorem dX4_takeEdge_18 : decode cX4_takeEdge 18 = .ok (.iload_n 3, 1) := by decide +kernel
theorem dX4_takeEdge_19 : decode cX4_takeEdge 19 = .ok (.iconst (-1), 1) := by decide +kernel
theorem dX4_takeEdge_20 : decode cX4_takeEdge 20 = .ok (.if_icmp .ne 7, 3) := by decide +kernel
theorem dX4_takeEdge_23 : decode cX4_takeEdge 23 = .ok (.iconst (-1), 1) := by decide +kernel
theorem dX4_takeEdge_24 : decode cX4_takeEdge 24 = .ok (.goto 10, 3) := by decide +kernel
theorem dX4_takeEdge_27 : decode cX4_takeEdge 27 = .ok (.aload_n 0, 1) := by decide +kernel
theorem dX4_takeEdge_28 : decode cX4_takeEdge 28 = .ok (.bipush 97, 2) := by decide +kernel
theorem dX4_takeEdge_30 : decode cX4_takeEdge 30 = .ok (.iload_n 2, 1) := by decide +kernel
theorem dX4_takeEdge_31 : decode cX4_takeEdge 31 = .ok (.invokevirtual 25, 3) := by decide +kernel
theorem dX4_takeEdge_34 : decode cX4_takeEdge 34 = .ok (.istore 4, 2) := by decide +kernel
theorem dX4_takeEdge_36 : decode cX4_takeEdge 36 = .ok (.iload_n 3, 1) := by decide +kernel
theorem dX4_takeEdge_37 : decode cX4_takeEdge 37 = .ok (.iconst (-1), 1) := by decide +kernel
theorem dX4_takeEdge_38 : decode cX4_takeEdge 38 = .ok (.if_icmp .eq 9, 3) := by decide +kernel
theorem dX4_takeEdge_41 : decode cX4_takeEdge 41 = .ok (.iload 4, 2) := by decide +kernel
theorem dX4_takeEdge_43 : decode cX4_takeEdge 43 = .ok (.iconst (-1), 1) := by decide +kernel
theorem dX4_takeEdge_44 : decode cX4_takeEdge 44 = .ok (.if_icmp .ne 5, 3) := by decide +kernel
theorem dX4_takeEdge_47 : decode cX4_takeEdge 47 = .ok (.iconst 0, 1) := by decide +kernel
theorem dX4_takeEdge_48 : decode cX4_takeEdge 48 = .ok (.ireturn, 1) := by decide +kernel
theorem dX4_takeEdge_49 : decode cX4_takeEdge 49 = .ok (.aload_n 0, 1) := by decide +kernel
theorem dX4_takeEdge_50 : decode cX4_takeEdge 50 = .ok (.getfield 15, 3) := by decide +kernel
theorem dX4_takeEdge_53 : decode cX4_takeEdge 53 = .ok (.iload_n 3, 1) := by decide +kernel
theorem dX4_takeEdge_54 : decode cX4_takeEdge 54 = .ok (.iaload, 1) := by decide +kernel
theorem dX4_takeEdge_55 : decode cX4_takeEdge 55 = .ok (.aload_n 0, 1) := by decide +kernel
theorem dX4_takeEdge_56 : decode cX4_takeEdge 56 = .ok (.getfield 15, 3) := by decide +kernel
theorem dX4_takeEdge_59 : decode cX4_takeEdge 59 = .ok (.iload 4, 2) := by decide +kernel
theorem dX4_takeEdge_61 : decode cX4_takeEdge 61 = .ok (.iaload, 1) := by decide +kernel
theorem dX4_takeEdge_62 : decode cX4_takeEdge 62 = .ok (.if_icmp .ne 15, 3) := by decide +kernel
theorem dX4_takeEdge_65 : decode cX4_takeEdge 65 = .ok (.aload_n 0, 1) := by decide +kernel
theorem dX4_takeEdge_66 : decode cX4_takeEdge 66 = .ok (.dup, 1) := by decide +kernel
theorem dX4_takeEdge_67 : decode cX4_takeEdge 67 = .ok (.getfield 22, 3) := by decide +kernel
theorem dX4_takeEdge_70 : decode cX4_takeEdge 70 = .ok (.iconst 1, 1) := by decide +kernel
theorem dX4_takeEdge_71 : decode cX4_takeEdge 71 = .ok (.isub, 1) := by decide +kernel
theorem dX4_takeEdge_72 : decode cX4_takeEdge 72 = .ok (.putfield 22, 3) := by decide +kernel
theorem dX4_takeEdge_75 : decode cX4_takeEdge 75 = .ok (.iconst 0, 1) := by decide +kernel
theorem dX4_takeEdge_76 : decode cX4_takeEdge 76 = .ok (.ireturn, 1) := by decide +kernel
theorem dX4_takeEdge_77 : decode cX4_takeEdge 77 = .ok (.aload_n 0, 1) := by decide +kernel
theorem dX4_takeEdge_78 : decode cX4_takeEdge 78 = .ok (.iconst 1, 1) := by decide +kernel
theorem dX4_takeEdge_79 : decode cX4_takeEdge 79 = .ok (.bipush 99, 2) := by decide +kernel
theorem dX4_takeEdge_81 : decode cX4_takeEdge 81 = .ok (.invokevirtual 29, 3) := by decide +kernel
theorem dX4_takeEdge_84 : decode cX4_takeEdge 84 = .ok (.istore 5, 2) := by decide +kernel
theorem dX4_takeEdge_86 : decode cX4_takeEdge 86 = .ok (.iload 5, 2) := by decide +kernel
theorem dX4_takeEdge_88 : decode cX4_takeEdge 88 = .ok (.iconst (-1), 1) := by decide +kernel
theorem dX4_takeEdge_89 : decode cX4_takeEdge 89 = .ok (.if_icmp .ne 5, 3) := by decide +kernel
theorem dX4_takeEdge_92 : decode cX4_takeEdge 92 = .ok (.iconst 0, 1) := by decide +kernel
theorem dX4_takeEdge_93 : decode cX4_takeEdge 93 = .ok (.ireturn, 1) := by decide +kernel
theorem dX4_takeEdge_94 : decode cX4_takeEdge 94 = .ok (.aload_n 1, 1) := by decide +kernel
theorem dX4_takeEdge_95 : decode cX4_takeEdge 95 = .ok (.iload_n 3, 1) := by decide +kernel
theorem dX4_takeEdge_96 : decode cX4_takeEdge 96 = .ok (.iload 4, 2) := by decide +kernel
theorem dX4_takeEdge_98 : decode cX4_takeEdge 98 = .ok (.iload 5, 2) := by decide +kernel
theorem dX4_takeEdge_100 : decode cX4_takeEdge 100 = .ok (.invokevirtual 56, 3) := by decide +kernel
theorem dX4_takeEdge_103 : decode cX4_takeEdge 103 = .ok (.aload_n 0, 1) := by decide +kernel
theorem dX4_takeEdge_104 : decode cX4_takeEdge 104 = .ok (.aload_n 0, 1) := by decide +kernel
theorem dX4_takeEdge_105 : decode cX4_takeEdge 105 = .ok (.getfield 15, 3) := by decide +kernel
theorem dX4_takeEdge_108 : decode cX4_takeEdge 108 = .ok (.iload_n 3, 1) := by decide +kernel
theorem dX4_takeEdge_109 : decode cX4_takeEdge 109 = .ok (.iaload, 1) := by decide +kernel
theorem dX4_takeEdge_110 : decode cX4_takeEdge 110 = .ok (.aload_n 0, 1) := by decide +kernel
theorem dX4_takeEdge_111 : decode cX4_takeEdge 111 = .ok (.getfield 15, 3) := by decide +kernel
theorem dX4_takeEdge_114 : decode cX4_takeEdge 114 = .ok (.iload 4, 2) := by decide +kernel
theorem dX4_takeEdge_116 : decode cX4_takeEdge 116 = .ok (.iaload, 1) := by decide +kernel
theorem dX4_takeEdge_117 : decode cX4_takeEdge 117 = .ok (.invokevirtual 60, 3) := by decide +kernel
theorem dX4_takeEdge_120 : decode cX4_takeEdge 120 = .ok (.iconst 1, 1) := by decide +kernel
theorem dX4_takeEdge_121 : decode cX4_takeEdge 121 = .ok (.ireturn, 1) := by decide +kernel
theorem dX4_joinTrees_0 : decode cX4_joinTrees 0 = .ok (.iconst 0, 1) := by decide +kernel
theorem dX4_joinTrees_1 : decode cX4_joinTrees 1 = .ok (.istore_n 3, 1) := by decide +kernel
theorem dX4_joinTrees_2 : decode cX4_joinTrees 2 = .ok (.iload_n 3, 1) := by decide +kernel
theorem dX4_joinTrees_3 : decode cX4_joinTrees 3 = .ok (.bipush 12, 2) := by decide +kernel
theorem dX4_joinTrees_5 : decode cX4_joinTrees 5 = .ok (.if_icmp .ge 26, 3) := by decide +kernel
theorem dX4_joinTrees_8 : decode cX4_joinTrees 8 = .ok (.aload_n 0, 1) := by decide +kernel
theorem dX4_joinTrees_9 : decode cX4_joinTrees 9 = .ok (.getfield 15, 3) := by decide +kernel
theorem dX4_joinTrees_12 : decode cX4_joinTrees 12 = .ok (.iload_n 3, 1) := by decide +kernel
theorem dX4_joinTrees_13 : decode cX4_joinTrees 13 = .ok (.iaload, 1) := by decide +kernel
theorem dX4_joinTrees_14 : decode cX4_joinTrees 14 = .ok (.iload_n 2, 1) := by decide +kernel
theorem dX4_joinTrees_15 : decode cX4_joinTrees 15 = .ok (.if_icmp .ne 10, 3) := by decide +kernel
theorem dX4_joinTrees_18 : decode cX4_joinTrees 18 = .ok (.aload_n 0, 1) := by decide +kernel
theorem dX4_joinTrees_19 : decode cX4_joinTrees 19 = .ok (.getfield 15, 3) := by decide +kernel
theorem dX4_joinTrees_22 : decode cX4_joinTrees 22 = .ok (.iload_n 3, 1) := by decide +kernel
theorem dX4_joinTrees_23 : decode cX4_joinTrees 23 = .ok (.iload_n 1, 1) := by decide +kernel
theorem dX4_joinTrees_24 : decode cX4_joinTrees 24 = .ok (.iastore, 1) := by decide +kernel
theorem dX4_joinTrees_25 : decode cX4_joinTrees 25 = .ok (.iinc 3 1, 3) := by decide +kernel
theorem dX4_joinTrees_28 : decode cX4_joinTrees 28 = .ok (.goto (-26), 3) := by decide +kernel
theorem dX4_joinTrees_31 : decode cX4_joinTrees 31 = .ok (.return_, 1) := by decide +kernel
theorem dX4_takeNumber_0 : decode cX4_takeNumber 0 = .ok (.aload_n 0, 1) := by decide +kernel
theorem dX4_takeNumber_1 : decode cX4_takeNumber 1 = .ok (.bipush 48, 2) := by decide +kernel
theorem dX4_takeNumber_3 : decode cX4_takeNumber 3 = .ok (.bipush 48, 2) := by decide +kernel
theorem dX4_takeNumber_5 : decode cX4_takeNumber 5 = .ok (.iload_n 2, 1) := by decide +kernel
theorem dX4_takeNumber_6 : decode cX4_takeNumber 6 = .ok (.bipush 10, 2) := by decide +kernel
theorem dX4_takeNumber_8 : decode cX4_takeNumber 8 = .ok (.idiv, 1) := by decide +kernel
theorem dX4_takeNumber_9 : decode cX4_takeNumber 9 = .ok (.iadd, 1) := by decide +kernel
theorem dX4_takeNumber_10 : decode cX4_takeNumber 10 = .ok (.invokevirtual 25, 3) := by decide +kernel
theorem dX4_takeNumber_13 : decode cX4_takeNumber 13 = .ok (.istore_n 3, 1) := by decide +kernel
theorem dX4_takeNumber_14 : decode cX4_takeNumber 14 = .ok (.iload_n 3, 1) := by decide +kernel
theorem dX4_takeNumber_15 : decode cX4_takeNumber 15 = .ok (.iconst (-1), 1) := by decide +kernel
theorem dX4_takeNumber_16 : decode cX4_takeNumber 16 = .ok (.if_icmp .ne 5, 3) := by decide +kernel
theorem dX4_takeNumber_19 : decode cX4_takeNumber 19 = .ok (.iconst (-1), 1) := by decide +kernel
theorem dX4_takeNumber_20 : decode cX4_takeNumber 20 = .ok (.ireturn, 1) := by decide +kernel
theorem dX4_takeNumber_21 : decode cX4_takeNumber 21 = .ok (.iload_n 3, 1) := by decide +kernel
theorem dX4_takeNumber_22 : decode cX4_takeNumber 22 = .ok (.ifCond .ne 7, 3) := by decide +kernel
theorem dX4_takeNumber_25 : decode cX4_takeNumber 25 = .ok (.iload_n 1, 1) := by decide +kernel
theorem dX4_takeNumber_26 : decode cX4_takeNumber 26 = .ok (.goto 4, 3) := by decide +kernel
theorem dX4_takeNumber_29 : decode cX4_takeNumber 29 = .ok (.iconst 0, 1) := by decide +kernel
theorem dX4_takeNumber_30 : decode cX4_takeNumber 30 = .ok (.istore 4, 2) := by decide +kernel
theorem dX4_takeNumber_32 : decode cX4_takeNumber 32 = .ok (.iload_n 3, 1) := by decide +kernel
theorem dX4_takeNumber_33 : decode cX4_takeNumber 33 = .ok (.iload_n 2, 1) := by decide +kernel
theorem dX4_takeNumber_34 : decode cX4_takeNumber 34 = .ok (.bipush 10, 2) := by decide +kernel
theorem dX4_takeNumber_36 : decode cX4_takeNumber 36 = .ok (.idiv, 1) := by decide +kernel
theorem dX4_takeNumber_37 : decode cX4_takeNumber 37 = .ok (.if_icmp .ne 10, 3) := by decide +kernel
theorem dX4_takeNumber_40 : decode cX4_takeNumber 40 = .ok (.iload_n 2, 1) := by decide +kernel
theorem dX4_takeNumber_41 : decode cX4_takeNumber 41 = .ok (.bipush 10, 2) := by decide +kernel
theorem dX4_takeNumber_43 : decode cX4_takeNumber 43 = .ok (.irem, 1) := by decide +kernel
theorem dX4_takeNumber_44 : decode cX4_takeNumber 44 = .ok (.goto 5, 3) := by decide +kernel
theorem dX4_takeNumber_47 : decode cX4_takeNumber 47 = .ok (.bipush 9, 2) := by decide +kernel
theorem dX4_takeNumber_49 : decode cX4_takeNumber 49 = .ok (.istore 5, 2) := by decide +kernel
theorem dX4_takeNumber_51 : decode cX4_takeNumber 51 = .ok (.aload_n 0, 1) := by decide +kernel
theorem dX4_takeNumber_52 : decode cX4_takeNumber 52 = .ok (.bipush 48, 2) := by decide +kernel
theorem dX4_takeNumber_54 : decode cX4_takeNumber 54 = .ok (.iload 4, 2) := by decide +kernel
theorem dX4_takeNumber_56 : decode cX4_takeNumber 56 = .ok (.iadd, 1) := by decide +kernel
theorem dX4_takeNumber_57 : decode cX4_takeNumber 57 = .ok (.bipush 48, 2) := by decide +kernel
theorem dX4_takeNumber_59 : decode cX4_takeNumber 59 = .ok (.iload 5, 2) := by decide +kernel
theorem dX4_takeNumber_61 : decode cX4_takeNumber 61 = .ok (.iadd, 1) := by decide +kernel
theorem dX4_takeNumber_62 : decode cX4_takeNumber 62 = .ok (.invokevirtual 25, 3) := by decide +kernel
theorem dX4_takeNumber_65 : decode cX4_takeNumber 65 = .ok (.istore 6, 2) := by decide +kernel
theorem dX4_takeNumber_67 : decode cX4_takeNumber 67 = .ok (.iload 6, 2) := by decide +kernel
theorem dX4_takeNumber_69 : decode cX4_takeNumber 69 = .ok (.iconst (-1), 1) := by decide +kernel
theorem dX4_takeNumber_70 : decode cX4_takeNumber 70 = .ok (.if_icmp .ne 7, 3) := by decide +kernel
theorem dX4_takeNumber_73 : decode cX4_takeNumber 73 = .ok (.iconst (-1), 1) := by decide +kernel
theorem dX4_takeNumber_74 : decode cX4_takeNumber 74 = .ok (.goto 13, 3) := by decide +kernel
theorem dX4_takeNumber_77 : decode cX4_takeNumber 77 = .ok (.bipush 10, 2) := by decide +kernel
theorem dX4_takeNumber_79 : decode cX4_takeNumber 79 = .ok (.iload_n 3, 1) := by decide +kernel
theorem dX4_takeNumber_80 : decode cX4_takeNumber 80 = .ok (.imul, 1) := by decide +kernel
theorem dX4_takeNumber_81 : decode cX4_takeNumber 81 = .ok (.iload 4, 2) := by decide +kernel
theorem dX4_takeNumber_83 : decode cX4_takeNumber 83 = .ok (.iadd, 1) := by decide +kernel
theorem dX4_takeNumber_84 : decode cX4_takeNumber 84 = .ok (.iload 6, 2) := by decide +kernel
theorem dX4_takeNumber_86 : decode cX4_takeNumber 86 = .ok (.iadd, 1) := by decide +kernel
theorem dX4_takeNumber_87 : decode cX4_takeNumber 87 = .ok (.ireturn, 1) := by decide +kernel
theorem dX4_take_0 : decode cX4_take 0 = .ok (.aload_n 0, 1) := by decide +kernel
theorem dX4_take_1 : decode cX4_take 1 = .ok (.getfield 22, 3) := by decide +kernel
theorem dX4_take_4 : decode cX4_take 4 = .ok (.aload_n 0, 1) := by decide +kernel
theorem dX4_take_5 : decode cX4_take 5 = .ok (.getfield 18, 3) := by decide +kernel
theorem dX4_take_8 : decode cX4_take 8 = .ok (.if_icmp .lt 5, 3) := by decide +kernel
theorem dX4_take_11 : decode cX4_take 11 = .ok (.iconst (-1), 1) := by decide +kernel
theorem dX4_take_12 : decode cX4_take 12 = .ok (.ireturn, 1) := by decide +kernel
theorem dX4_take_13 : decode cX4_take 13 = .ok (.aload_n 0, 1) := by decide +kernel
theorem dX4_take_14 : decode cX4_take 14 = .ok (.getfield 11, 3) := by decide +kernel
theorem dX4_take_17 : decode cX4_take 17 = .ok (.aload_n 0, 1) := by decide +kernel
theorem dX4_take_18 : decode cX4_take 18 = .ok (.getfield 22, 3) := by decide +kernel
theorem dX4_take_21 : decode cX4_take 21 = .ok (.iaload, 1) := by decide +kernel
theorem dX4_take_22 : decode cX4_take 22 = .ok (.istore_n 3, 1) := by decide +kernel
theorem dX4_take_23 : decode cX4_take 23 = .ok (.iload_n 3, 1) := by decide +kernel
theorem dX4_take_24 : decode cX4_take 24 = .ok (.iload_n 1, 1) := by decide +kernel
theorem dX4_take_25 : decode cX4_take 25 = .ok (.if_icmp .lt 8, 3) := by decide +kernel
theorem dX4_take_28 : decode cX4_take 28 = .ok (.iload_n 3, 1) := by decide +kernel
theorem dX4_take_29 : decode cX4_take 29 = .ok (.iload_n 2, 1) := by decide +kernel
theorem dX4_take_30 : decode cX4_take 30 = .ok (.if_icmp .le 5, 3) := by decide +kernel
theorem dX4_take_33 : decode cX4_take 33 = .ok (.iconst (-1), 1) := by decide +kernel
theorem dX4_take_34 : decode cX4_take 34 = .ok (.ireturn, 1) := by decide +kernel
theorem dX4_take_35 : decode cX4_take 35 = .ok (.aload_n 0, 1) := by decide +kernel
theorem dX4_take_36 : decode cX4_take 36 = .ok (.dup, 1) := by decide +kernel
theorem dX4_take_37 : decode cX4_take 37 = .ok (.getfield 22, 3) := by decide +kernel
theorem dX4_take_40 : decode cX4_take 40 = .ok (.iconst 1, 1) := by decide +kernel
theorem dX4_take_41 : decode cX4_take 41 = .ok (.iadd, 1) := by decide +kernel
theorem dX4_take_42 : decode cX4_take 42 = .ok (.putfield 22, 3) := by decide +kernel
theorem dX4_take_45 : decode cX4_take 45 = .ok (.iload_n 3, 1) := by decide +kernel
theorem dX4_take_46 : decode cX4_take 46 = .ok (.iload_n 1, 1) := by decide +kernel
theorem dX4_take_47 : decode cX4_take 47 = .ok (.isub, 1) := by decide +kernel
theorem dX4_take_48 : decode cX4_take 48 = .ok (.ireturn, 1) := by decide +kernel
theorem dJ7_fill_53178_0 : decode cJ7_fill_53178 0 = .ok (.iconst 0, 1) := by decide +kernel
theorem dJ7_fill_53178_1 : decode cJ7_fill_53178 1 = .ok (.istore_n 2, 1) := by decide +kernel
theorem dJ7_fill_53178_2 : decode cJ7_fill_53178 2 = .ok (.aload_n 0, 1) := by decide +kernel
theorem dJ7_fill_53178_3 : decode cJ7_fill_53178 3 = .ok (.arraylength, 1) := by decide +kernel
theorem dJ7_fill_53178_4 : decode cJ7_fill_53178 4 = .ok (.istore_n 3, 1) := by decide +kernel
theorem dJ7_fill_53178_5 : decode cJ7_fill_53178 5 = .ok (.iload_n 2, 1) := by decide +kernel
theorem dJ7_fill_53178_6 : decode cJ7_fill_53178 6 = .ok (.iload_n 3, 1) := by decide +kernel
theorem dJ7_fill_53178_7 : decode cJ7_fill_53178 7 = .ok (.if_icmp .ge 13, 3) := by decide +kernel
theorem dJ7_fill_53178_10 : decode cJ7_fill_53178 10 = .ok (.aload_n 0, 1) := by decide +kernel
theorem dJ7_fill_53178_11 : decode cJ7_fill_53178 11 = .ok (.iload_n 2, 1) := by decide +kernel
theorem dJ7_fill_53178_12 : decode cJ7_fill_53178 12 = .ok (.iload_n 1, 1) := by decide +kernel
theorem dJ7_fill_53178_13 : decode cJ7_fill_53178 13 = .ok (.iastore, 1) := by decide +kernel
theorem dJ7_fill_53178_14 : decode cJ7_fill_53178 14 = .ok (.iinc 2 1, 3) := by decide +kernel
theorem dJ7_fill_53178_17 : decode cJ7_fill_53178 17 = .ok (.goto (-12), 3) := by decide +kernel
theorem dJ7_fill_53178_20 : decode cJ7_fill_53178 20 = .ok (.return_, 1) := by decide +kernel
end
section
theorem dX5_init_0 : decode cX5_init 0 = .ok (.aload_n 0, 1) := by decide +kernel
theorem dX5_init_1 : decode cX5_init 1 = .ok (.invokespecial 3, 3) := by decide +kernel
theorem dX5_init_4 : decode cX5_init 4 = .ok (.aload_n 0, 1) := by decide +kernel
theorem dX5_init_5 : decode cX5_init 5 = .ok (.aload_n 1, 1) := by decide +kernel
theorem dX5_init_6 : decode cX5_init 6 = .ok (.putfield 9, 3) := by decide +kernel
theorem dX5_init_9 : decode cX5_init 9 = .ok (.aload_n 0, 1) := by decide +kernel
theorem dX5_init_10 : decode cX5_init 10 = .ok (.bipush 12, 2) := by decide +kernel
theorem dX5_init_12 : decode cX5_init 12 = .ok (.bipush 12, 2) := by decide +kernel
theorem dX5_init_14 : decode cX5_init 14 = .ok (.multianewarray 15 2, 4) := by decide +kernel
theorem dX5_init_18 : decode cX5_init 18 = .ok (.putfield 17, 3) := by decide +kernel
theorem dX5_init_21 : decode cX5_init 21 = .ok (.return_, 1) := by decide +kernel
theorem dX5_measure_0 : decode cX5_measure 0 = .ok (.aload_n 0, 1) := by decide +kernel
theorem dX5_measure_1 : decode cX5_measure 1 = .ok (.aload_n 0, 1) := by decide +kernel
theorem dX5_measure_2 : decode cX5_measure 2 = .ok (.getfield 9, 3) := by decide +kernel
theorem dX5_measure_5 : decode cX5_measure 5 = .ok (.invokevirtual 20, 3) := by decide +kernel
theorem dX5_measure_8 : decode cX5_measure 8 = .ok (.putfield 26, 3) := by decide +kernel
theorem dX5_measure_11 : decode cX5_measure 11 = .ok (.iconst 0, 1) := by decide +kernel
theorem dX5_measure_12 : decode cX5_measure 12 = .ok (.istore_n 1, 1) := by decide +kernel
theorem dX5_measure_13 : decode cX5_measure 13 = .ok (.iload_n 1, 1) := by decide +kernel
theorem dX5_measure_14 : decode cX5_measure 14 = .ok (.aload_n 0, 1) := by decide +kernel
theorem dX5_measure_15 : decode cX5_measure 15 = .ok (.getfield 26, 3) := by decide +kernel
theorem dX5_measure_18 : decode cX5_measure 18 = .ok (.if_icmp .ge 62, 3) := by decide +kernel
theorem dX5_measure_21 : decode cX5_measure 21 = .ok (.iconst 0, 1) := by decide +kernel
theorem dX5_measure_22 : decode cX5_measure 22 = .ok (.istore_n 2, 1) := by decide +kernel
theorem dX5_measure_23 : decode cX5_measure 23 = .ok (.iload_n 2, 1) := by decide +kernel
theorem dX5_measure_24 : decode cX5_measure 24 = .ok (.aload_n 0, 1) := by decide +kernel
theorem dX5_measure_25 : decode cX5_measure 25 = .ok (.getfield 26, 3) := by decide +kernel
theorem dX5_measure_28 : decode cX5_measure 28 = .ok (.if_icmp .ge 37, 3) := by decide +kernel
theorem dX5_measure_31 : decode cX5_measure 31 = .ok (.aload_n 0, 1) := by decide +kernel
theorem dX5_measure_32 : decode cX5_measure 32 = .ok (.getfield 9, 3) := by decide +kernel
theorem dX5_measure_35 : decode cX5_measure 35 = .ok (.iload_n 1, 1) := by decide +kernel
theorem dX5_measure_36 : decode cX5_measure 36 = .ok (.iload_n 2, 1) := by decide +kernel
theorem dX5_measure_37 : decode cX5_measure 37 = .ok (.invokevirtual 30, 3) := by decide +kernel
theorem dX5_measure_40 : decode cX5_measure 40 = .ok (.istore_n 3, 1) := by decide +kernel
theorem dX5_measure_41 : decode cX5_measure 41 = .ok (.aload_n 0, 1) := by decide +kernel
theorem dX5_measure_42 : decode cX5_measure 42 = .ok (.getfield 17, 3) := by decide +kernel
theorem dX5_measure_45 : decode cX5_measure 45 = .ok (.iload_n 1, 1) := by decide +kernel
theorem dX5_measure_46 : decode cX5_measure 46 = .ok (.aaload, 1) := by decide +kernel
theorem dX5_measure_47 : decode cX5_measure 47 = .ok (.iload_n 2, 1) := by decide +kernel
theorem dX5_measure_48 : decode cX5_measure 48 = .ok (.iload_n 3, 1) := by decide +kernel
theorem dX5_measure_49 : decode cX5_measure 49 = .ok (.ifCond .ne 8, 3) := by decide +kernel
theorem dX5_measure_52 : decode cX5_measure 52 = .ok (.ldc 34, 2) := by decide +kernel
theorem dX5_measure_54 : decode cX5_measure 54 = .ok (.goto 4, 3) := by decide +kernel
theorem dX5_measure_57 : decode cX5_measure 57 = .ok (.iload_n 3, 1) := by decide +kernel
theorem dX5_measure_58 : decode cX5_measure 58 = .ok (.iastore, 1) := by decide +kernel
theorem dX5_measure_59 : decode cX5_measure 59 = .ok (.iinc 2 1, 3) := by decide +kernel
theorem dX5_measure_62 : decode cX5_measure 62 = .ok (.goto (-39), 3) := by decide +kernel
theorem dX5_measure_65 : decode cX5_measure 65 = .ok (.aload_n 0, 1) := by decide +kernel
theorem dX5_measure_66 : decode cX5_measure 66 = .ok (.getfield 17, 3) := by decide +kernel
theorem dX5_measure_69 : decode cX5_measure 69 = .ok (.iload_n 1, 1) := by decide +kernel
theorem dX5_measure_70 : decode cX5_measure 70 = .ok (.aaload, 1) := by decide +kernel
theorem dX5_measure_71 : decode cX5_measure 71 = .ok (.iload_n 1, 1) := by decide +kernel
theorem dX5_measure_72 : decode cX5_measure 72 = .ok (.iconst 0, 1) := by decide +kernel
theorem dX5_measure_73 : decode cX5_measure 73 = .ok (.iastore, 1) := by decide +kernel
theorem dX5_measure_74 : decode cX5_measure 74 = .ok (.iinc 1 1, 3) := by decide +kernel
theorem dX5_measure_77 : decode cX5_measure 77 = .ok (.goto (-64), 3) := by decide +kernel
theorem dX5_measure_80 : decode cX5_measure 80 = .ok (.iconst 0, 1) := by decide +kernel
theorem dX5_measure_81 : decode cX5_measure 81 = .ok (.istore_n 1, 1) := by decide +kernel
theorem dX5_measure_82 : decode cX5_measure 82 = .ok (.iload_n 1, 1) := by decide +kernel
theorem dX5_measure_83 : decode cX5_measure 83 = .ok (.aload_n 0, 1) := by decide +kernel
theorem dX5_measure_84 : decode cX5_measure 84 = .ok (.getfield 26, 3) := by decide +kernel
theorem dX5_measure_87 : decode cX5_measure 87 = .ok (.if_icmp .ge 31, 3) := by decide +kernel
theorem dX5_measure_90 : decode cX5_measure 90 = .ok (.iconst 0, 1) := by decide +kernel
theorem dX5_measure_91 : decode cX5_measure 91 = .ok (.istore_n 2, 1) := by decide +kernel
theorem dX5_measure_92 : decode cX5_measure 92 = .ok (.iload_n 2, 1) := by decide +kernel
theorem dX5_measure_93 : decode cX5_measure 93 = .ok (.aload_n 0, 1) := by decide +kernel
theorem dX5_measure_94 : decode cX5_measure 94 = .ok (.getfield 26, 3) := by decide +kernel
theorem dX5_measure_97 : decode cX5_measure 97 = .ok (.if_icmp .ge 15, 3) := by decide +kernel
theorem dX5_measure_100 : decode cX5_measure 100 = .ok (.aload_n 0, 1) := by decide +kernel
theorem dX5_measure_101 : decode cX5_measure 101 = .ok (.iload_n 1, 1) := by decide +kernel
theorem dX5_measure_102 : decode cX5_measure 102 = .ok (.iload_n 2, 1) := by decide +kernel
theorem dX5_measure_103 : decode cX5_measure 103 = .ok (.invokevirtual 35, 3) := by decide +kernel
theorem dX5_measure_106 : decode cX5_measure 106 = .ok (.iinc 2 1, 3) := by decide +kernel
theorem dX5_measure_109 : decode cX5_measure 109 = .ok (.goto (-17), 3) := by decide +kernel
theorem dX5_measure_112 : decode cX5_measure 112 = .ok (.iinc 1 1, 3) := by decide +kernel
theorem dX5_measure_115 : decode cX5_measure 115 = .ok (.goto (-33), 3) := by decide +kernel
theorem dX5_measure_118 : decode cX5_measure 118 = .ok (.return_, 1) := by decide +kernel
theorem dX5_extendOver_0 : decode cX5_extendOver 0 = .ok (.aload_n 0, 1) := by decide +kernel
theorem dX5_extendOver_1 : decode cX5_extendOver 1 = .ok (.getfield 17, 3) := by decide +kernel
theorem dX5_extendOver_4 : decode cX5_extendOver 4 = .ok (.iload_n 2, 1) := by decide +kernel
theorem dX5_extendOver_5 : decode cX5_extendOver 5 = .ok (.aaload, 1) := by decide +kernel
theorem dX5_extendOver_6 : decode cX5_extendOver 6 = .ok (.iload_n 1, 1) := by decide +kernel
theorem dX5_extendOver_7 : decode cX5_extendOver 7 = .ok (.iaload, 1) := by decide +kernel
theorem dX5_extendOver_8 : decode cX5_extendOver 8 = .ok (.istore_n 3, 1) := by decide +kernel
theorem dX5_extendOver_9 : decode cX5_extendOver 9 = .ok (.iload_n 3, 1) := by decide +kernel
theorem dX5_extendOver_10 : decode cX5_extendOver 10 = .ok (.ldc 34, 2) := by decide +kernel
theorem dX5_extendOver_12 : decode cX5_extendOver 12 = .ok (.if_icmp .lt 4, 3) := by decide +kernel
theorem dX5_extendOver_15 : decode cX5_extendOver 15 = .ok (.return_, 1) := by decide +kernel
theorem dX5_extendOver_16 : decode cX5_extendOver 16 = .ok (.iconst 0, 1) := by decide +kernel
theorem dX5_extendOver_17 : decode cX5_extendOver 17 = .ok (.istore 4, 2) := by decide +kernel
theorem dX5_extendOver_19 : decode cX5_extendOver 19 = .ok (.iload 4, 2) := by decide +kernel
theorem dX5_extendOver_21 : decode cX5_extendOver 21 = .ok (.aload_n 0, 1) := by decide +kernel
theorem dX5_extendOver_22 : decode cX5_extendOver 22 = .ok (.getfield 26, 3) := by decide +kernel
theorem dX5_extendOver_25 : decode cX5_extendOver 25 = .ok (.if_icmp .ge 41, 3) := by decide +kernel
theorem dX5_extendOver_28 : decode cX5_extendOver 28 = .ok (.aload_n 0, 1) := by decide +kernel
theorem dX5_extendOver_29 : decode cX5_extendOver 29 = .ok (.getfield 17, 3) := by decide +kernel
theorem dX5_extendOver_32 : decode cX5_extendOver 32 = .ok (.iload_n 2, 1) := by decide +kernel
theorem dX5_extendOver_33 : decode cX5_extendOver 33 = .ok (.aaload, 1) := by decide +kernel
theorem dX5_extendOver_34 : decode cX5_extendOver 34 = .ok (.iload 4, 2) := by decide +kernel
theorem dX5_extendOver_36 : decode cX5_extendOver 36 = .ok (.aload_n 0, 1) := by decide +kernel
theorem dX5_extendOver_37 : decode cX5_extendOver 37 = .ok (.getfield 17, 3) := by decide +kernel
theorem dX5_extendOver_40 : decode cX5_extendOver 40 = .ok (.iload_n 2, 1) := by decide +kernel
theorem dX5_extendOver_41 : decode cX5_extendOver 41 = .ok (.aaload, 1) := by decide +kernel
theorem dX5_extendOver_42 : decode cX5_extendOver 42 = .ok (.iload 4, 2) := by decide +kernel
theorem dX5_extendOver_44 : decode cX5_extendOver 44 = .ok (.iaload, 1) := by decide +kernel
theorem dX5_extendOver_45 : decode cX5_extendOver 45 = .ok (.iload_n 3, 1) := by decide +kernel
theorem dX5_extendOver_46 : decode cX5_extendOver 46 = .ok (.aload_n 0, 1) := by decide +kernel
theorem dX5_extendOver_47 : decode cX5_extendOver 47 = .ok (.getfield 17, 3) := by decide +kernel
theorem dX5_extendOver_50 : decode cX5_extendOver 50 = .ok (.iload_n 1, 1) := by decide +kernel
theorem dX5_extendOver_51 : decode cX5_extendOver 51 = .ok (.aaload, 1) := by decide +kernel
theorem dX5_extendOver_52 : decode cX5_extendOver 52 = .ok (.iload 4, 2) := by decide +kernel
theorem dX5_extendOver_54 : decode cX5_extendOver 54 = .ok (.iaload, 1) := by decide +kernel
theorem dX5_extendOver_55 : decode cX5_extendOver 55 = .ok (.iadd, 1) := by decide +kernel
theorem dX5_extendOver_56 : decode cX5_extendOver 56 = .ok (.invokestatic 39, 3) := by decide +kernel
theorem dX5_extendOver_59 : decode cX5_extendOver 59 = .ok (.iastore, 1) := by decide +kernel
theorem dX5_extendOver_60 : decode cX5_extendOver 60 = .ok (.iinc 4 1, 3) := by decide +kernel
theorem dX5_extendOver_63 : decode cX5_extendOver 63 = .ok (.goto (-44), 3) := by decide +kernel
theorem dX5_extendOver_66 : decode cX5_extendOver 66 = .ok (.return_, 1) := by decide +kernel
theorem dX5_between_0 : decode cX5_between 0 = .ok (.iload_n 1, 1) := by decide +kernel
theorem dX5_between_1 : decode cX5_between 1 = .ok (.ifCond .lt 23, 3) := by decide +kernel
theorem dX5_between_4 : decode cX5_between 4 = .ok (.iload_n 1, 1) := by decide +kernel
theorem dX5_between_5 : decode cX5_between 5 = .ok (.aload_n 0, 1) := by decide +kernel
theorem dX5_between_6 : decode cX5_between 6 = .ok (.getfield 26, 3) := by decide +kernel
theorem dX5_between_9 : decode cX5_between 9 = .ok (.if_icmp .ge 15, 3) := by decide +kernel
theorem dX5_between_12 : decode cX5_between 12 = .ok (.iload_n 2, 1) := by decide +kernel
theorem dX5_between_13 : decode cX5_between 13 = .ok (.ifCond .lt 11, 3) := by decide +kernel
theorem dX5_between_16 : decode cX5_between 16 = .ok (.iload_n 2, 1) := by decide +kernel
theorem dX5_between_17 : decode cX5_between 17 = .ok (.aload_n 0, 1) := by decide +kernel
theorem dX5_between_18 : decode cX5_between 18 = .ok (.getfield 26, 3) := by decide +kernel
theorem dX5_between_21 : decode cX5_between 21 = .ok (.if_icmp .lt 6, 3) := by decide +kernel
theorem dX5_between_24 : decode cX5_between 24 = .ok (.ldc 34, 2) := by decide +kernel
theorem dX5_between_26 : decode cX5_between 26 = .ok (.ireturn, 1) := by decide +kernel
theorem dX5_between_27 : decode cX5_between 27 = .ok (.aload_n 0, 1) := by decide +kernel
theorem dX5_between_28 : decode cX5_between 28 = .ok (.getfield 17, 3) := by decide +kernel
theorem dX5_between_31 : decode cX5_between 31 = .ok (.iload_n 1, 1) := by decide +kernel
theorem dX5_between_32 : decode cX5_between 32 = .ok (.aaload, 1) := by decide +kernel
theorem dX5_between_33 : decode cX5_between 33 = .ok (.iload_n 2, 1) := by decide +kernel
theorem dX5_between_34 : decode cX5_between 34 = .ok (.iaload, 1) := by decide +kernel
theorem dX5_between_35 : decode cX5_between 35 = .ok (.ireturn, 1) := by decide +kernel
theorem dX5_joined_0 : decode cX5_joined 0 = .ok (.aload_n 0, 1) := by decide +kernel
theorem dX5_joined_1 : decode cX5_joined 1 = .ok (.iload_n 1, 1) := by decide +kernel
theorem dX5_joined_2 : decode cX5_joined 2 = .ok (.iload_n 2, 1) := by decide +kernel
theorem dX5_joined_3 : decode cX5_joined 3 = .ok (.invokevirtual 44, 3) := by decide +kernel
theorem dX5_joined_6 : decode cX5_joined 6 = .ok (.ldc 34, 2) := by decide +kernel
theorem dX5_joined_8 : decode cX5_joined 8 = .ok (.if_icmp .ge 7, 3) := by decide +kernel
theorem dX5_joined_11 : decode cX5_joined 11 = .ok (.iconst 1, 1) := by decide +kernel
theorem dX5_joined_12 : decode cX5_joined 12 = .ok (.goto 4, 3) := by decide +kernel
theorem dX5_joined_15 : decode cX5_joined 15 = .ok (.iconst 0, 1) := by decide +kernel
theorem dX5_joined_16 : decode cX5_joined 16 = .ok (.ireturn, 1) := by decide +kernel
theorem dX5_edgeOf_0 : decode cX5_edgeOf 0 = .ok (.aload_n 0, 1) := by decide +kernel
theorem dX5_edgeOf_1 : decode cX5_edgeOf 1 = .ok (.getfield 9, 3) := by decide +kernel
theorem dX5_edgeOf_4 : decode cX5_edgeOf 4 = .ok (.iload_n 1, 1) := by decide +kernel
theorem dX5_edgeOf_5 : decode cX5_edgeOf 5 = .ok (.iload_n 2, 1) := by decide +kernel
theorem dX5_edgeOf_6 : decode cX5_edgeOf 6 = .ok (.invokevirtual 30, 3) := by decide +kernel
theorem dX5_edgeOf_9 : decode cX5_edgeOf 9 = .ok (.ireturn, 1) := by decide +kernel
theorem dX5_smallestJoined_0 : decode cX5_smallestJoined 0 = .ok (.iconst 0, 1) := by decide +kernel
theorem dX5_smallestJoined_1 : decode cX5_smallestJoined 1 = .ok (.istore_n 2, 1) := by decide +kernel
theorem dX5_smallestJoined_2 : decode cX5_smallestJoined 2 = .ok (.iload_n 2, 1) := by decide +kernel
theorem dX5_smallestJoined_3 : decode cX5_smallestJoined 3 = .ok (.iload_n 1, 1) := by decide +kernel
theorem dX5_smallestJoined_4 : decode cX5_smallestJoined 4 = .ok (.if_icmp .ge 20, 3) := by decide +kernel
theorem dX5_smallestJoined_7 : decode cX5_smallestJoined 7 = .ok (.aload_n 0, 1) := by decide +kernel
theorem dX5_smallestJoined_8 : decode cX5_smallestJoined 8 = .ok (.iload_n 2, 1) := by decide +kernel
theorem dX5_smallestJoined_9 : decode cX5_smallestJoined 9 = .ok (.iload_n 1, 1) := by decide +kernel
theorem dX5_smallestJoined_10 : decode cX5_smallestJoined 10 = .ok (.invokevirtual 47, 3) := by decide +kernel
theorem dX5_smallestJoined_13 : decode cX5_smallestJoined 13 = .ok (.ifCond .eq 5, 3) := by decide +kernel
theorem dX5_smallestJoined_16 : decode cX5_smallestJoined 16 = .ok (.iload_n 2, 1) := by decide +kernel
theorem dX5_smallestJoined_17 : decode cX5_smallestJoined 17 = .ok (.ireturn, 1) := by decide +kernel
theorem dX5_smallestJoined_18 : decode cX5_smallestJoined 18 = .ok (.iinc 2 1, 3) := by decide +kernel
theorem dX5_smallestJoined_21 : decode cX5_smallestJoined 21 = .ok (.goto (-19), 3) := by decide +kernel
theorem dX5_smallestJoined_24 : decode cX5_smallestJoined 24 = .ok (.iload_n 1, 1) := by decide +kernel
theorem dX5_smallestJoined_25 : decode cX5_smallestJoined 25 = .ok (.ireturn, 1) := by decide +kernel
theorem dX5_vertexOnPath_0 : decode cX5_vertexOnPath 0 = .ok (.aload_n 0, 1) := by decide +kernel
theorem dX5_vertexOnPath_1 : decode cX5_vertexOnPath 1 = .ok (.iload_n 1, 1) := by decide +kernel
theorem dX5_vertexOnPath_2 : decode cX5_vertexOnPath 2 = .ok (.iload_n 2, 1) := by decide +kernel
theorem dX5_vertexOnPath_3 : decode cX5_vertexOnPath 3 = .ok (.invokevirtual 47, 3) := by decide +kernel
theorem dX5_vertexOnPath_6 : decode cX5_vertexOnPath 6 = .ok (.ifCond .eq 9, 3) := by decide +kernel
theorem dX5_vertexOnPath_9 : decode cX5_vertexOnPath 9 = .ok (.iload_n 3, 1) := by decide +kernel
theorem dX5_vertexOnPath_10 : decode cX5_vertexOnPath 10 = .ok (.bipush 12, 2) := by decide +kernel
theorem dX5_vertexOnPath_12 : decode cX5_vertexOnPath 12 = .ok (.if_icmp .lt 6, 3) := by decide +kernel
theorem dX5_vertexOnPath_15 : decode cX5_vertexOnPath 15 = .ok (.bipush (-9), 2) := by decide +kernel
theorem dX5_vertexOnPath_17 : decode cX5_vertexOnPath 17 = .ok (.ireturn, 1) := by decide +kernel
theorem dX5_vertexOnPath_18 : decode cX5_vertexOnPath 18 = .ok (.iload_n 1, 1) := by decide +kernel
theorem dX5_vertexOnPath_19 : decode cX5_vertexOnPath 19 = .ok (.istore 4, 2) := by decide +kernel
theorem dX5_vertexOnPath_21 : decode cX5_vertexOnPath 21 = .ok (.iconst 0, 1) := by decide +kernel
theorem dX5_vertexOnPath_22 : decode cX5_vertexOnPath 22 = .ok (.istore 5, 2) := by decide +kernel
theorem dX5_vertexOnPath_24 : decode cX5_vertexOnPath 24 = .ok (.iload 5, 2) := by decide +kernel
theorem dX5_vertexOnPath_26 : decode cX5_vertexOnPath 26 = .ok (.iload_n 3, 1) := by decide +kernel
theorem dX5_vertexOnPath_27 : decode cX5_vertexOnPath 27 = .ok (.if_icmp .ge 27, 3) := by decide +kernel
theorem dX5_vertexOnPath_30 : decode cX5_vertexOnPath 30 = .ok (.iload 4, 2) := by decide +kernel
theorem dX5_vertexOnPath_32 : decode cX5_vertexOnPath 32 = .ok (.iload_n 2, 1) := by decide +kernel
theorem dX5_vertexOnPath_33 : decode cX5_vertexOnPath 33 = .ok (.if_icmp .ne 6, 3) := by decide +kernel
theorem dX5_vertexOnPath_36 : decode cX5_vertexOnPath 36 = .ok (.bipush (-9), 2) := by decide +kernel
theorem dX5_vertexOnPath_38 : decode cX5_vertexOnPath 38 = .ok (.ireturn, 1) := by decide +kernel
theorem dX5_vertexOnPath_39 : decode cX5_vertexOnPath 39 = .ok (.aload_n 0, 1) := by decide +kernel
theorem dX5_vertexOnPath_40 : decode cX5_vertexOnPath 40 = .ok (.iload 4, 2) := by decide +kernel
theorem dX5_vertexOnPath_42 : decode cX5_vertexOnPath 42 = .ok (.iload_n 2, 1) := by decide +kernel
theorem dX5_vertexOnPath_43 : decode cX5_vertexOnPath 43 = .ok (.invokevirtual 51, 3) := by decide +kernel
theorem dX5_vertexOnPath_46 : decode cX5_vertexOnPath 46 = .ok (.istore 4, 2) := by decide +kernel
theorem dX5_vertexOnPath_48 : decode cX5_vertexOnPath 48 = .ok (.iinc 5 1, 3) := by decide +kernel
theorem dX5_vertexOnPath_51 : decode cX5_vertexOnPath 51 = .ok (.goto (-27), 3) := by decide +kernel
theorem dX5_vertexOnPath_54 : decode cX5_vertexOnPath 54 = .ok (.iload 4, 2) := by decide +kernel
theorem dX5_vertexOnPath_56 : decode cX5_vertexOnPath 56 = .ok (.ireturn, 1) := by decide +kernel
theorem dX5_stepToward_0 : decode cX5_stepToward 0 = .ok (.iconst 0, 1) := by decide +kernel
theorem dX5_stepToward_1 : decode cX5_stepToward 1 = .ok (.istore_n 3, 1) := by decide +kernel
theorem dX5_stepToward_2 : decode cX5_stepToward 2 = .ok (.iload_n 3, 1) := by decide +kernel
theorem dX5_stepToward_3 : decode cX5_stepToward 3 = .ok (.aload_n 0, 1) := by decide +kernel
theorem dX5_stepToward_4 : decode cX5_stepToward 4 = .ok (.getfield 26, 3) := by decide +kernel
theorem dX5_stepToward_7 : decode cX5_stepToward 7 = .ok (.if_icmp .ge 38, 3) := by decide +kernel
theorem dX5_stepToward_10 : decode cX5_stepToward 10 = .ok (.aload_n 0, 1) := by decide +kernel
theorem dX5_stepToward_11 : decode cX5_stepToward 11 = .ok (.getfield 9, 3) := by decide +kernel
theorem dX5_stepToward_14 : decode cX5_stepToward 14 = .ok (.iload_n 1, 1) := by decide +kernel
theorem dX5_stepToward_15 : decode cX5_stepToward 15 = .ok (.iload_n 3, 1) := by decide +kernel
theorem dX5_stepToward_16 : decode cX5_stepToward 16 = .ok (.invokevirtual 54, 3) := by decide +kernel
theorem dX5_stepToward_19 : decode cX5_stepToward 19 = .ok (.ifCond .eq 20, 3) := by decide +kernel
theorem dX5_stepToward_22 : decode cX5_stepToward 22 = .ok (.aload_n 0, 1) := by decide +kernel
theorem dX5_stepToward_23 : decode cX5_stepToward 23 = .ok (.iload_n 3, 1) := by decide +kernel
theorem dX5_stepToward_24 : decode cX5_stepToward 24 = .ok (.iload_n 2, 1) := by decide +kernel
theorem dX5_stepToward_25 : decode cX5_stepToward 25 = .ok (.invokevirtual 44, 3) := by decide +kernel
theorem dX5_stepToward_28 : decode cX5_stepToward 28 = .ok (.aload_n 0, 1) := by decide +kernel
theorem dX5_stepToward_29 : decode cX5_stepToward 29 = .ok (.iload_n 1, 1) := by decide +kernel
theorem dX5_stepToward_30 : decode cX5_stepToward 30 = .ok (.iload_n 2, 1) := by decide +kernel
theorem dX5_stepToward_31 : decode cX5_stepToward 31 = .ok (.invokevirtual 44, 3) := by decide +kernel
theorem dX5_stepToward_34 : decode cX5_stepToward 34 = .ok (.if_icmp .ge 5, 3) := by decide +kernel
theorem dX5_stepToward_37 : decode cX5_stepToward 37 = .ok (.iload_n 3, 1) := by decide +kernel
theorem dX5_stepToward_38 : decode cX5_stepToward 38 = .ok (.ireturn, 1) := by decide +kernel
theorem dX5_stepToward_39 : decode cX5_stepToward 39 = .ok (.iinc 3 1, 3) := by decide +kernel
theorem dX5_stepToward_42 : decode cX5_stepToward 42 = .ok (.goto (-40), 3) := by decide +kernel
theorem dX5_stepToward_45 : decode cX5_stepToward 45 = .ok (.iload_n 2, 1) := by decide +kernel
theorem dX5_stepToward_46 : decode cX5_stepToward 46 = .ok (.ireturn, 1) := by decide +kernel
theorem dX5_greatestFrom_0 : decode cX5_greatestFrom 0 = .ok (.aload_n 0, 1) := by decide +kernel
theorem dX5_greatestFrom_1 : decode cX5_greatestFrom 1 = .ok (.iload_n 1, 1) := by decide +kernel
theorem dX5_greatestFrom_2 : decode cX5_greatestFrom 2 = .ok (.aload_n 0, 1) := by decide +kernel
theorem dX5_greatestFrom_3 : decode cX5_greatestFrom 3 = .ok (.iload_n 1, 1) := by decide +kernel
theorem dX5_greatestFrom_4 : decode cX5_greatestFrom 4 = .ok (.invokevirtual 57, 3) := by decide +kernel
theorem dX5_greatestFrom_7 : decode cX5_greatestFrom 7 = .ok (.invokevirtual 44, 3) := by decide +kernel
theorem dX5_greatestFrom_10 : decode cX5_greatestFrom 10 = .ok (.ireturn, 1) := by decide +kernel
theorem dX5_firstFarthest_0 : decode cX5_firstFarthest 0 = .ok (.iload_n 1, 1) := by decide +kernel
theorem dX5_firstFarthest_1 : decode cX5_firstFarthest 1 = .ok (.istore_n 2, 1) := by decide +kernel
theorem dX5_firstFarthest_2 : decode cX5_firstFarthest 2 = .ok (.iconst (-1), 1) := by decide +kernel
theorem dX5_firstFarthest_3 : decode cX5_firstFarthest 3 = .ok (.istore_n 3, 1) := by decide +kernel
theorem dX5_firstFarthest_4 : decode cX5_firstFarthest 4 = .ok (.iconst 0, 1) := by decide +kernel
theorem dX5_firstFarthest_5 : decode cX5_firstFarthest 5 = .ok (.istore 4, 2) := by decide +kernel
theorem dX5_firstFarthest_7 : decode cX5_firstFarthest 7 = .ok (.iload 4, 2) := by decide +kernel
theorem dX5_firstFarthest_9 : decode cX5_firstFarthest 9 = .ok (.aload_n 0, 1) := by decide +kernel
theorem dX5_firstFarthest_10 : decode cX5_firstFarthest 10 = .ok (.getfield 26, 3) := by decide +kernel
theorem dX5_firstFarthest_13 : decode cX5_firstFarthest 13 = .ok (.if_icmp .ge 37, 3) := by decide +kernel
theorem dX5_firstFarthest_16 : decode cX5_firstFarthest 16 = .ok (.aload_n 0, 1) := by decide +kernel
theorem dX5_firstFarthest_17 : decode cX5_firstFarthest 17 = .ok (.iload 4, 2) := by decide +kernel
theorem dX5_firstFarthest_19 : decode cX5_firstFarthest 19 = .ok (.iload_n 1, 1) := by decide +kernel
theorem dX5_firstFarthest_20 : decode cX5_firstFarthest 20 = .ok (.invokevirtual 44, 3) := by decide +kernel
theorem dX5_firstFarthest_23 : decode cX5_firstFarthest 23 = .ok (.istore 5, 2) := by decide +kernel
theorem dX5_firstFarthest_25 : decode cX5_firstFarthest 25 = .ok (.iload 5, 2) := by decide +kernel
theorem dX5_firstFarthest_27 : decode cX5_firstFarthest 27 = .ok (.ldc 34, 2) := by decide +kernel
theorem dX5_firstFarthest_29 : decode cX5_firstFarthest 29 = .ok (.if_icmp .ge 15, 3) := by decide +kernel
theorem dX5_firstFarthest_32 : decode cX5_firstFarthest 32 = .ok (.iload 5, 2) := by decide +kernel
theorem dX5_firstFarthest_34 : decode cX5_firstFarthest 34 = .ok (.iload_n 3, 1) := by decide +kernel
theorem dX5_firstFarthest_35 : decode cX5_firstFarthest 35 = .ok (.if_icmp .le 9, 3) := by decide +kernel
theorem dX5_firstFarthest_38 : decode cX5_firstFarthest 38 = .ok (.iload 4, 2) := by decide +kernel
theorem dX5_firstFarthest_40 : decode cX5_firstFarthest 40 = .ok (.istore_n 2, 1) := by decide +kernel
theorem dX5_firstFarthest_41 : decode cX5_firstFarthest 41 = .ok (.iload 5, 2) := by decide +kernel
theorem dX5_firstFarthest_43 : decode cX5_firstFarthest 43 = .ok (.istore_n 3, 1) := by decide +kernel
theorem dX5_firstFarthest_44 : decode cX5_firstFarthest 44 = .ok (.iinc 4 1, 3) := by decide +kernel
theorem dX5_firstFarthest_47 : decode cX5_firstFarthest 47 = .ok (.goto (-40), 3) := by decide +kernel
theorem dX5_firstFarthest_50 : decode cX5_firstFarthest 50 = .ok (.iload_n 2, 1) := by decide +kernel
theorem dX5_firstFarthest_51 : decode cX5_firstFarthest 51 = .ok (.ireturn, 1) := by decide +kernel
theorem dX5_widthAround_0 : decode cX5_widthAround 0 = .ok (.aload_n 0, 1) := by decide +kernel
theorem dX5_widthAround_1 : decode cX5_widthAround 1 = .ok (.aload_n 0, 1) := by decide +kernel
theorem dX5_widthAround_2 : decode cX5_widthAround 2 = .ok (.iload_n 1, 1) := by decide +kernel
theorem dX5_widthAround_3 : decode cX5_widthAround 3 = .ok (.invokevirtual 61, 3) := by decide +kernel
theorem dX5_widthAround_6 : decode cX5_widthAround 6 = .ok (.invokevirtual 64, 3) := by decide +kernel
theorem dX5_widthAround_9 : decode cX5_widthAround 9 = .ok (.ireturn, 1) := by decide +kernel
theorem dX5_firstWideEnd_0 : decode cX5_firstWideEnd 0 = .ok (.iload_n 1, 1) := by decide +kernel
theorem dX5_firstWideEnd_1 : decode cX5_firstWideEnd 1 = .ok (.istore_n 2, 1) := by decide +kernel
theorem dX5_firstWideEnd_2 : decode cX5_firstWideEnd 2 = .ok (.iconst (-1), 1) := by decide +kernel
theorem dX5_firstWideEnd_3 : decode cX5_firstWideEnd 3 = .ok (.istore_n 3, 1) := by decide +kernel
theorem dX5_firstWideEnd_4 : decode cX5_firstWideEnd 4 = .ok (.iconst 0, 1) := by decide +kernel
theorem dX5_firstWideEnd_5 : decode cX5_firstWideEnd 5 = .ok (.istore 4, 2) := by decide +kernel
theorem dX5_firstWideEnd_7 : decode cX5_firstWideEnd 7 = .ok (.iload 4, 2) := by decide +kernel
theorem dX5_firstWideEnd_9 : decode cX5_firstWideEnd 9 = .ok (.aload_n 0, 1) := by decide +kernel
theorem dX5_firstWideEnd_10 : decode cX5_firstWideEnd 10 = .ok (.getfield 26, 3) := by decide +kernel
theorem dX5_firstWideEnd_13 : decode cX5_firstWideEnd 13 = .ok (.if_icmp .ge 39, 3) := by decide +kernel
theorem dX5_firstWideEnd_16 : decode cX5_firstWideEnd 16 = .ok (.aload_n 0, 1) := by decide +kernel
theorem dX5_firstWideEnd_17 : decode cX5_firstWideEnd 17 = .ok (.iload 4, 2) := by decide +kernel
theorem dX5_firstWideEnd_19 : decode cX5_firstWideEnd 19 = .ok (.iload_n 1, 1) := by decide +kernel
theorem dX5_firstWideEnd_20 : decode cX5_firstWideEnd 20 = .ok (.invokevirtual 47, 3) := by decide +kernel
theorem dX5_firstWideEnd_23 : decode cX5_firstWideEnd 23 = .ok (.ifCond .eq 23, 3) := by decide +kernel
theorem dX5_firstWideEnd_26 : decode cX5_firstWideEnd 26 = .ok (.aload_n 0, 1) := by decide +kernel
theorem dX5_firstWideEnd_27 : decode cX5_firstWideEnd 27 = .ok (.iload 4, 2) := by decide +kernel
theorem dX5_firstWideEnd_29 : decode cX5_firstWideEnd 29 = .ok (.invokevirtual 64, 3) := by decide +kernel
theorem dX5_firstWideEnd_32 : decode cX5_firstWideEnd 32 = .ok (.iload_n 3, 1) := by decide +kernel
theorem dX5_firstWideEnd_33 : decode cX5_firstWideEnd 33 = .ok (.if_icmp .le 13, 3) := by decide +kernel
theorem dX5_firstWideEnd_36 : decode cX5_firstWideEnd 36 = .ok (.iload 4, 2) := by decide +kernel
theorem dX5_firstWideEnd_38 : decode cX5_firstWideEnd 38 = .ok (.istore_n 2, 1) := by decide +kernel
theorem dX5_firstWideEnd_39 : decode cX5_firstWideEnd 39 = .ok (.aload_n 0, 1) := by decide +kernel
theorem dX5_firstWideEnd_40 : decode cX5_firstWideEnd 40 = .ok (.iload 4, 2) := by decide +kernel
theorem dX5_firstWideEnd_42 : decode cX5_firstWideEnd 42 = .ok (.invokevirtual 64, 3) := by decide +kernel
theorem dX5_firstWideEnd_45 : decode cX5_firstWideEnd 45 = .ok (.istore_n 3, 1) := by decide +kernel
theorem dX5_firstWideEnd_46 : decode cX5_firstWideEnd 46 = .ok (.iinc 4 1, 3) := by decide +kernel
theorem dX5_firstWideEnd_49 : decode cX5_firstWideEnd 49 = .ok (.goto (-42), 3) := by decide +kernel
theorem dX5_firstWideEnd_52 : decode cX5_firstWideEnd 52 = .ok (.iload_n 2, 1) := by decide +kernel
theorem dX5_firstWideEnd_53 : decode cX5_firstWideEnd 53 = .ok (.ireturn, 1) := by decide +kernel
theorem dX5_middleOf_0 : decode cX5_middleOf 0 = .ok (.iload_n 1, 1) := by decide +kernel
theorem dX5_middleOf_1 : decode cX5_middleOf 1 = .ok (.istore_n 2, 1) := by decide +kernel
theorem dX5_middleOf_2 : decode cX5_middleOf 2 = .ok (.ldc 67, 2) := by decide +kernel
theorem dX5_middleOf_4 : decode cX5_middleOf 4 = .ok (.istore_n 3, 1) := by decide +kernel
theorem dX5_middleOf_5 : decode cX5_middleOf 5 = .ok (.iconst 0, 1) := by decide +kernel
theorem dX5_middleOf_6 : decode cX5_middleOf 6 = .ok (.istore 4, 2) := by decide +kernel
theorem dX5_middleOf_8 : decode cX5_middleOf 8 = .ok (.iload 4, 2) := by decide +kernel
theorem dX5_middleOf_10 : decode cX5_middleOf 10 = .ok (.aload_n 0, 1) := by decide +kernel
theorem dX5_middleOf_11 : decode cX5_middleOf 11 = .ok (.getfield 26, 3) := by decide +kernel
theorem dX5_middleOf_14 : decode cX5_middleOf 14 = .ok (.if_icmp .ge 39, 3) := by decide +kernel
theorem dX5_middleOf_17 : decode cX5_middleOf 17 = .ok (.aload_n 0, 1) := by decide +kernel
theorem dX5_middleOf_18 : decode cX5_middleOf 18 = .ok (.iload 4, 2) := by decide +kernel
theorem dX5_middleOf_20 : decode cX5_middleOf 20 = .ok (.iload_n 1, 1) := by decide +kernel
theorem dX5_middleOf_21 : decode cX5_middleOf 21 = .ok (.invokevirtual 47, 3) := by decide +kernel
theorem dX5_middleOf_24 : decode cX5_middleOf 24 = .ok (.ifCond .eq 23, 3) := by decide +kernel
theorem dX5_middleOf_27 : decode cX5_middleOf 27 = .ok (.aload_n 0, 1) := by decide +kernel
theorem dX5_middleOf_28 : decode cX5_middleOf 28 = .ok (.iload 4, 2) := by decide +kernel
theorem dX5_middleOf_30 : decode cX5_middleOf 30 = .ok (.invokevirtual 64, 3) := by decide +kernel
theorem dX5_middleOf_33 : decode cX5_middleOf 33 = .ok (.iload_n 3, 1) := by decide +kernel
theorem dX5_middleOf_34 : decode cX5_middleOf 34 = .ok (.if_icmp .ge 13, 3) := by decide +kernel
theorem dX5_middleOf_37 : decode cX5_middleOf 37 = .ok (.iload 4, 2) := by decide +kernel
theorem dX5_middleOf_39 : decode cX5_middleOf 39 = .ok (.istore_n 2, 1) := by decide +kernel
theorem dX5_middleOf_40 : decode cX5_middleOf 40 = .ok (.aload_n 0, 1) := by decide +kernel
theorem dX5_middleOf_41 : decode cX5_middleOf 41 = .ok (.iload 4, 2) := by decide +kernel
theorem dX5_middleOf_43 : decode cX5_middleOf 43 = .ok (.invokevirtual 64, 3) := by decide +kernel
theorem dX5_middleOf_46 : decode cX5_middleOf 46 = .ok (.istore_n 3, 1) := by decide +kernel
theorem dX5_middleOf_47 : decode cX5_middleOf 47 = .ok (.iinc 4 1, 3) := by decide +kernel
theorem dX5_middleOf_50 : decode cX5_middleOf 50 = .ok (.goto (-42), 3) := by decide +kernel
theorem dX5_middleOf_53 : decode cX5_middleOf 53 = .ok (.iload_n 2, 1) := by decide +kernel
theorem dX5_middleOf_54 : decode cX5_middleOf 54 = .ok (.ireturn, 1) := by decide +kernel
theorem dX5_priceOf_0 : decode cX5_priceOf 0 = .ok (.iconst 0, 1) := by decide +kernel
theorem dX5_priceOf_1 : decode cX5_priceOf 1 = .ok (.istore_n 2, 1) := by decide +kernel
theorem dX5_priceOf_2 : decode cX5_priceOf 2 = .ok (.iconst 0, 1) := by decide +kernel
theorem dX5_priceOf_3 : decode cX5_priceOf 3 = .ok (.istore_n 3, 1) := by decide +kernel
theorem dX5_priceOf_4 : decode cX5_priceOf 4 = .ok (.iload_n 3, 1) := by decide +kernel
theorem dX5_priceOf_5 : decode cX5_priceOf 5 = .ok (.aload_n 0, 1) := by decide +kernel
theorem dX5_priceOf_6 : decode cX5_priceOf 6 = .ok (.getfield 26, 3) := by decide +kernel
theorem dX5_priceOf_9 : decode cX5_priceOf 9 = .ok (.if_icmp .ge 36, 3) := by decide +kernel
theorem dX5_priceOf_12 : decode cX5_priceOf 12 = .ok (.aload_n 0, 1) := by decide +kernel
theorem dX5_priceOf_13 : decode cX5_priceOf 13 = .ok (.iload_n 3, 1) := by decide +kernel
theorem dX5_priceOf_14 : decode cX5_priceOf 14 = .ok (.iload_n 1, 1) := by decide +kernel
theorem dX5_priceOf_15 : decode cX5_priceOf 15 = .ok (.invokevirtual 47, 3) := by decide +kernel
theorem dX5_priceOf_18 : decode cX5_priceOf 18 = .ok (.ifCond .eq 21, 3) := by decide +kernel
theorem dX5_priceOf_21 : decode cX5_priceOf 21 = .ok (.iload_n 2, 1) := by decide +kernel
theorem dX5_priceOf_22 : decode cX5_priceOf 22 = .ok (.aload_n 0, 1) := by decide +kernel
theorem dX5_priceOf_23 : decode cX5_priceOf 23 = .ok (.getfield 9, 3) := by decide +kernel
theorem dX5_priceOf_26 : decode cX5_priceOf 26 = .ok (.iload_n 3, 1) := by decide +kernel
theorem dX5_priceOf_27 : decode cX5_priceOf 27 = .ok (.invokevirtual 68, 3) := by decide +kernel
theorem dX5_priceOf_30 : decode cX5_priceOf 30 = .ok (.aload_n 0, 1) := by decide +kernel
theorem dX5_priceOf_31 : decode cX5_priceOf 31 = .ok (.iload_n 3, 1) := by decide +kernel
theorem dX5_priceOf_32 : decode cX5_priceOf 32 = .ok (.iload_n 1, 1) := by decide +kernel
theorem dX5_priceOf_33 : decode cX5_priceOf 33 = .ok (.invokevirtual 44, 3) := by decide +kernel
theorem dX5_priceOf_36 : decode cX5_priceOf 36 = .ok (.imul, 1) := by decide +kernel
theorem dX5_priceOf_37 : decode cX5_priceOf 37 = .ok (.iadd, 1) := by decide +kernel
theorem dX5_priceOf_38 : decode cX5_priceOf 38 = .ok (.istore_n 2, 1) := by decide +kernel
theorem dX5_priceOf_39 : decode cX5_priceOf 39 = .ok (.iinc 3 1, 3) := by decide +kernel
theorem dX5_priceOf_42 : decode cX5_priceOf 42 = .ok (.goto (-38), 3) := by decide +kernel
theorem dX5_priceOf_45 : decode cX5_priceOf 45 = .ok (.iload_n 2, 1) := by decide +kernel
theorem dX5_priceOf_46 : decode cX5_priceOf 46 = .ok (.ireturn, 1) := by decide +kernel
theorem dX5_cheapestOf_0 : decode cX5_cheapestOf 0 = .ok (.iload_n 1, 1) := by decide +kernel
theorem dX5_cheapestOf_1 : decode cX5_cheapestOf 1 = .ok (.istore_n 2, 1) := by decide +kernel
theorem dX5_cheapestOf_2 : decode cX5_cheapestOf 2 = .ok (.ldc 67, 2) := by decide +kernel
theorem dX5_cheapestOf_4 : decode cX5_cheapestOf 4 = .ok (.istore_n 3, 1) := by decide +kernel
theorem dX5_cheapestOf_5 : decode cX5_cheapestOf 5 = .ok (.iconst 0, 1) := by decide +kernel
theorem dX5_cheapestOf_6 : decode cX5_cheapestOf 6 = .ok (.istore 4, 2) := by decide +kernel
theorem dX5_cheapestOf_8 : decode cX5_cheapestOf 8 = .ok (.iload 4, 2) := by decide +kernel
theorem dX5_cheapestOf_10 : decode cX5_cheapestOf 10 = .ok (.aload_n 0, 1) := by decide +kernel
theorem dX5_cheapestOf_11 : decode cX5_cheapestOf 11 = .ok (.getfield 26, 3) := by decide +kernel
theorem dX5_cheapestOf_14 : decode cX5_cheapestOf 14 = .ok (.if_icmp .ge 39, 3) := by decide +kernel
theorem dX5_cheapestOf_17 : decode cX5_cheapestOf 17 = .ok (.aload_n 0, 1) := by decide +kernel
theorem dX5_cheapestOf_18 : decode cX5_cheapestOf 18 = .ok (.iload 4, 2) := by decide +kernel
theorem dX5_cheapestOf_20 : decode cX5_cheapestOf 20 = .ok (.iload_n 1, 1) := by decide +kernel
theorem dX5_cheapestOf_21 : decode cX5_cheapestOf 21 = .ok (.invokevirtual 47, 3) := by decide +kernel
theorem dX5_cheapestOf_24 : decode cX5_cheapestOf 24 = .ok (.ifCond .eq 23, 3) := by decide +kernel
theorem dX5_cheapestOf_27 : decode cX5_cheapestOf 27 = .ok (.aload_n 0, 1) := by decide +kernel
theorem dX5_cheapestOf_28 : decode cX5_cheapestOf 28 = .ok (.iload 4, 2) := by decide +kernel
theorem dX5_cheapestOf_30 : decode cX5_cheapestOf 30 = .ok (.invokevirtual 71, 3) := by decide +kernel
theorem dX5_cheapestOf_33 : decode cX5_cheapestOf 33 = .ok (.iload_n 3, 1) := by decide +kernel
theorem dX5_cheapestOf_34 : decode cX5_cheapestOf 34 = .ok (.if_icmp .ge 13, 3) := by decide +kernel
theorem dX5_cheapestOf_37 : decode cX5_cheapestOf 37 = .ok (.iload 4, 2) := by decide +kernel
theorem dX5_cheapestOf_39 : decode cX5_cheapestOf 39 = .ok (.istore_n 2, 1) := by decide +kernel
theorem dX5_cheapestOf_40 : decode cX5_cheapestOf 40 = .ok (.aload_n 0, 1) := by decide +kernel
theorem dX5_cheapestOf_41 : decode cX5_cheapestOf 41 = .ok (.iload 4, 2) := by decide +kernel
theorem dX5_cheapestOf_43 : decode cX5_cheapestOf 43 = .ok (.invokevirtual 71, 3) := by decide +kernel
theorem dX5_cheapestOf_46 : decode cX5_cheapestOf 46 = .ok (.istore_n 3, 1) := by decide +kernel
theorem dX5_cheapestOf_47 : decode cX5_cheapestOf 47 = .ok (.iinc 4 1, 3) := by decide +kernel
theorem dX5_cheapestOf_50 : decode cX5_cheapestOf 50 = .ok (.goto (-42), 3) := by decide +kernel
theorem dX5_cheapestOf_53 : decode cX5_cheapestOf 53 = .ok (.iload_n 2, 1) := by decide +kernel
theorem dX5_cheapestOf_54 : decode cX5_cheapestOf 54 = .ok (.ireturn, 1) := by decide +kernel
theorem dX5_meetingOf_0 : decode cX5_meetingOf 0 = .ok (.aload_n 0, 1) := by decide +kernel
theorem dX5_meetingOf_1 : decode cX5_meetingOf 1 = .ok (.iload_n 1, 1) := by decide +kernel
theorem dX5_meetingOf_2 : decode cX5_meetingOf 2 = .ok (.iload_n 2, 1) := by decide +kernel
theorem dX5_meetingOf_3 : decode cX5_meetingOf 3 = .ok (.invokevirtual 47, 3) := by decide +kernel
theorem dX5_meetingOf_6 : decode cX5_meetingOf 6 = .ok (.ifCond .eq 12, 3) := by decide +kernel
theorem dX5_meetingOf_9 : decode cX5_meetingOf 9 = .ok (.aload_n 0, 1) := by decide +kernel
theorem dX5_meetingOf_10 : decode cX5_meetingOf 10 = .ok (.iload_n 1, 1) := by decide +kernel
theorem dX5_meetingOf_11 : decode cX5_meetingOf 11 = .ok (.iload_n 3, 1) := by decide +kernel
theorem dX5_meetingOf_12 : decode cX5_meetingOf 12 = .ok (.invokevirtual 47, 3) := by decide +kernel
theorem dX5_meetingOf_15 : decode cX5_meetingOf 15 = .ok (.ifCond .ne 6, 3) := by decide +kernel
theorem dX5_meetingOf_18 : decode cX5_meetingOf 18 = .ok (.bipush (-9), 2) := by decide +kernel
theorem dX5_meetingOf_20 : decode cX5_meetingOf 20 = .ok (.ireturn, 1) := by decide +kernel
theorem dX5_meetingOf_21 : decode cX5_meetingOf 21 = .ok (.iconst 0, 1) := by decide +kernel
theorem dX5_meetingOf_22 : decode cX5_meetingOf 22 = .ok (.istore 4, 2) := by decide +kernel
theorem dX5_meetingOf_24 : decode cX5_meetingOf 24 = .ok (.iload 4, 2) := by decide +kernel
theorem dX5_meetingOf_26 : decode cX5_meetingOf 26 = .ok (.aload_n 0, 1) := by decide +kernel
theorem dX5_meetingOf_27 : decode cX5_meetingOf 27 = .ok (.getfield 26, 3) := by decide +kernel
theorem dX5_meetingOf_30 : decode cX5_meetingOf 30 = .ok (.if_icmp .ge 45, 3) := by decide +kernel
theorem dX5_meetingOf_33 : decode cX5_meetingOf 33 = .ok (.aload_n 0, 1) := by decide +kernel
theorem dX5_meetingOf_34 : decode cX5_meetingOf 34 = .ok (.iload 4, 2) := by decide +kernel
theorem dX5_meetingOf_36 : decode cX5_meetingOf 36 = .ok (.iload_n 1, 1) := by decide +kernel
theorem dX5_meetingOf_37 : decode cX5_meetingOf 37 = .ok (.iload_n 2, 1) := by decide +kernel
theorem dX5_meetingOf_38 : decode cX5_meetingOf 38 = .ok (.invokevirtual 74, 3) := by decide +kernel
theorem dX5_meetingOf_41 : decode cX5_meetingOf 41 = .ok (.ifCond .eq 28, 3) := by decide +kernel
theorem dX5_meetingOf_44 : decode cX5_meetingOf 44 = .ok (.aload_n 0, 1) := by decide +kernel
theorem dX5_meetingOf_45 : decode cX5_meetingOf 45 = .ok (.iload 4, 2) := by decide +kernel
theorem dX5_meetingOf_47 : decode cX5_meetingOf 47 = .ok (.iload_n 2, 1) := by decide +kernel
theorem dX5_meetingOf_48 : decode cX5_meetingOf 48 = .ok (.iload_n 3, 1) := by decide +kernel
theorem dX5_meetingOf_49 : decode cX5_meetingOf 49 = .ok (.invokevirtual 74, 3) := by decide +kernel
theorem dX5_meetingOf_52 : decode cX5_meetingOf 52 = .ok (.ifCond .eq 17, 3) := by decide +kernel
theorem dX5_meetingOf_55 : decode cX5_meetingOf 55 = .ok (.aload_n 0, 1) := by decide +kernel
theorem dX5_meetingOf_56 : decode cX5_meetingOf 56 = .ok (.iload 4, 2) := by decide +kernel
theorem dX5_meetingOf_58 : decode cX5_meetingOf 58 = .ok (.iload_n 1, 1) := by decide +kernel
theorem dX5_meetingOf_59 : decode cX5_meetingOf 59 = .ok (.iload_n 3, 1) := by decide +kernel
theorem dX5_meetingOf_60 : decode cX5_meetingOf 60 = .ok (.invokevirtual 74, 3) := by decide +kernel
theorem dX5_meetingOf_63 : decode cX5_meetingOf 63 = .ok (.ifCond .eq 6, 3) := by decide +kernel
theorem dX5_meetingOf_66 : decode cX5_meetingOf 66 = .ok (.iload 4, 2) := by decide +kernel
theorem dX5_meetingOf_68 : decode cX5_meetingOf 68 = .ok (.ireturn, 1) := by decide +kernel
theorem dX5_meetingOf_69 : decode cX5_meetingOf 69 = .ok (.iinc 4 1, 3) := by decide +kernel
theorem dX5_meetingOf_72 : decode cX5_meetingOf 72 = .ok (.goto (-48), 3) := by decide +kernel
theorem dX5_meetingOf_75 : decode cX5_meetingOf 75 = .ok (.bipush (-9), 2) := by decide +kernel
theorem dX5_meetingOf_77 : decode cX5_meetingOf 77 = .ok (.ireturn, 1) := by decide +kernel
theorem dX5_onPath_0 : decode cX5_onPath 0 = .ok (.aload_n 0, 1) := by decide +kernel
theorem dX5_onPath_1 : decode cX5_onPath 1 = .ok (.iload_n 2, 1) := by decide +kernel
theorem dX5_onPath_2 : decode cX5_onPath 2 = .ok (.iload_n 1, 1) := by decide +kernel
theorem dX5_onPath_3 : decode cX5_onPath 3 = .ok (.invokevirtual 44, 3) := by decide +kernel
theorem dX5_onPath_6 : decode cX5_onPath 6 = .ok (.aload_n 0, 1) := by decide +kernel
theorem dX5_onPath_7 : decode cX5_onPath 7 = .ok (.iload_n 1, 1) := by decide +kernel
theorem dX5_onPath_8 : decode cX5_onPath 8 = .ok (.iload_n 3, 1) := by decide +kernel
theorem dX5_onPath_9 : decode cX5_onPath 9 = .ok (.invokevirtual 44, 3) := by decide +kernel
theorem dX5_onPath_12 : decode cX5_onPath 12 = .ok (.iadd, 1) := by decide +kernel
theorem dX5_onPath_13 : decode cX5_onPath 13 = .ok (.aload_n 0, 1) := by decide +kernel
theorem dX5_onPath_14 : decode cX5_onPath 14 = .ok (.iload_n 2, 1) := by decide +kernel
theorem dX5_onPath_15 : decode cX5_onPath 15 = .ok (.iload_n 3, 1) := by decide +kernel
theorem dX5_onPath_16 : decode cX5_onPath 16 = .ok (.invokevirtual 44, 3) := by decide +kernel
theorem dX5_onPath_19 : decode cX5_onPath 19 = .ok (.if_icmp .ne 7, 3) := by decide +kernel
theorem dX5_onPath_22 : decode cX5_onPath 22 = .ok (.iconst 1, 1) := by decide +kernel
theorem dX5_onPath_23 : decode cX5_onPath 23 = .ok (.goto 4, 3) := by decide +kernel
theorem dX5_onPath_26 : decode cX5_onPath 26 = .ok (.iconst 0, 1) := by decide +kernel
theorem dX5_onPath_27 : decode cX5_onPath 27 = .ok (.ireturn, 1) := by decide +kernel
theorem dX5_goesOver_0 : decode cX5_goesOver 0 = .ok (.aload_n 0, 1) := by decide +kernel
theorem dX5_goesOver_1 : decode cX5_goesOver 1 = .ok (.getfield 9, 3) := by decide +kernel
theorem dX5_goesOver_4 : decode cX5_goesOver 4 = .ok (.iload_n 3, 1) := by decide +kernel
theorem dX5_goesOver_5 : decode cX5_goesOver 5 = .ok (.iload 4, 2) := by decide +kernel
theorem dX5_goesOver_7 : decode cX5_goesOver 7 = .ok (.invokevirtual 30, 3) := by decide +kernel
theorem dX5_goesOver_10 : decode cX5_goesOver 10 = .ok (.istore 5, 2) := by decide +kernel
theorem dX5_goesOver_12 : decode cX5_goesOver 12 = .ok (.aload_n 0, 1) := by decide +kernel
theorem dX5_goesOver_13 : decode cX5_goesOver 13 = .ok (.iload_n 1, 1) := by decide +kernel
theorem dX5_goesOver_14 : decode cX5_goesOver 14 = .ok (.iload_n 3, 1) := by decide +kernel
theorem dX5_goesOver_15 : decode cX5_goesOver 15 = .ok (.invokevirtual 44, 3) := by decide +kernel
theorem dX5_goesOver_18 : decode cX5_goesOver 18 = .ok (.iload 5, 2) := by decide +kernel
theorem dX5_goesOver_20 : decode cX5_goesOver 20 = .ok (.iadd, 1) := by decide +kernel
theorem dX5_goesOver_21 : decode cX5_goesOver 21 = .ok (.aload_n 0, 1) := by decide +kernel
theorem dX5_goesOver_22 : decode cX5_goesOver 22 = .ok (.iload 4, 2) := by decide +kernel
theorem dX5_goesOver_24 : decode cX5_goesOver 24 = .ok (.iload_n 2, 1) := by decide +kernel
theorem dX5_goesOver_25 : decode cX5_goesOver 25 = .ok (.invokevirtual 44, 3) := by decide +kernel
theorem dX5_goesOver_28 : decode cX5_goesOver 28 = .ok (.iadd, 1) := by decide +kernel
theorem dX5_goesOver_29 : decode cX5_goesOver 29 = .ok (.istore 6, 2) := by decide +kernel
theorem dX5_goesOver_31 : decode cX5_goesOver 31 = .ok (.aload_n 0, 1) := by decide +kernel
theorem dX5_goesOver_32 : decode cX5_goesOver 32 = .ok (.iload_n 1, 1) := by decide +kernel
theorem dX5_goesOver_33 : decode cX5_goesOver 33 = .ok (.iload 4, 2) := by decide +kernel
theorem dX5_goesOver_35 : decode cX5_goesOver 35 = .ok (.invokevirtual 44, 3) := by decide +kernel
theorem dX5_goesOver_38 : decode cX5_goesOver 38 = .ok (.iload 5, 2) := by decide +kernel
theorem dX5_goesOver_40 : decode cX5_goesOver 40 = .ok (.iadd, 1) := by decide +kernel
theorem dX5_goesOver_41 : decode cX5_goesOver 41 = .ok (.aload_n 0, 1) := by decide +kernel
theorem dX5_goesOver_42 : decode cX5_goesOver 42 = .ok (.iload_n 3, 1) := by decide +kernel
theorem dX5_goesOver_43 : decode cX5_goesOver 43 = .ok (.iload_n 2, 1) := by decide +kernel
theorem dX5_goesOver_44 : decode cX5_goesOver 44 = .ok (.invokevirtual 44, 3) := by decide +kernel
theorem dX5_goesOver_47 : decode cX5_goesOver 47 = .ok (.iadd, 1) := by decide +kernel
theorem dX5_goesOver_48 : decode cX5_goesOver 48 = .ok (.istore 7, 2) := by decide +kernel
theorem dX5_goesOver_50 : decode cX5_goesOver 50 = .ok (.iload 6, 2) := by decide +kernel
theorem dX5_goesOver_52 : decode cX5_goesOver 52 = .ok (.iload 7, 2) := by decide +kernel
theorem dX5_goesOver_54 : decode cX5_goesOver 54 = .ok (.invokestatic 39, 3) := by decide +kernel
theorem dX5_goesOver_57 : decode cX5_goesOver 57 = .ok (.aload_n 0, 1) := by decide +kernel
theorem dX5_goesOver_58 : decode cX5_goesOver 58 = .ok (.iload_n 1, 1) := by decide +kernel
theorem dX5_goesOver_59 : decode cX5_goesOver 59 = .ok (.iload_n 2, 1) := by decide +kernel
theorem dX5_goesOver_60 : decode cX5_goesOver 60 = .ok (.invokevirtual 44, 3) := by decide +kernel
theorem dX5_goesOver_63 : decode cX5_goesOver 63 = .ok (.if_icmp .ne 7, 3) := by decide +kernel
theorem dX5_goesOver_66 : decode cX5_goesOver 66 = .ok (.iconst 1, 1) := by decide +kernel
theorem dX5_goesOver_67 : decode cX5_goesOver 67 = .ok (.goto 4, 3) := by decide +kernel
theorem dX5_goesOver_70 : decode cX5_goesOver 70 = .ok (.iconst 0, 1) := by decide +kernel
theorem dX5_goesOver_71 : decode cX5_goesOver 71 = .ok (.ireturn, 1) := by decide +kernel
theorem dX5_evenestEdge_0 : decode cX5_evenestEdge 0 = .ok (.bipush (-9), 2) := by decide +kernel
theorem dX5_evenestEdge_2 : decode cX5_evenestEdge 2 = .ok (.istore_n 2, 1) := by decide +kernel
theorem dX5_evenestEdge_3 : decode cX5_evenestEdge 3 = .ok (.ldc 67, 2) := by decide +kernel
theorem dX5_evenestEdge_5 : decode cX5_evenestEdge 5 = .ok (.istore_n 3, 1) := by decide +kernel
theorem dX5_evenestEdge_6 : decode cX5_evenestEdge 6 = .ok (.iconst 0, 1) := by decide +kernel
theorem dX5_evenestEdge_7 : decode cX5_evenestEdge 7 = .ok (.istore 4, 2) := by decide +kernel
theorem dX5_evenestEdge_9 : decode cX5_evenestEdge 9 = .ok (.iload 4, 2) := by decide +kernel
theorem dX5_evenestEdge_11 : decode cX5_evenestEdge 11 = .ok (.aload_n 0, 1) := by decide +kernel
theorem dX5_evenestEdge_12 : decode cX5_evenestEdge 12 = .ok (.getfield 26, 3) := by decide +kernel
theorem dX5_evenestEdge_15 : decode cX5_evenestEdge 15 = .ok (.if_icmp .ge 84, 3) := by decide +kernel
theorem dX5_evenestEdge_18 : decode cX5_evenestEdge 18 = .ok (.iload 4, 2) := by decide +kernel
theorem dX5_evenestEdge_20 : decode cX5_evenestEdge 20 = .ok (.iconst 1, 1) := by decide +kernel
theorem dX5_evenestEdge_21 : decode cX5_evenestEdge 21 = .ok (.iadd, 1) := by decide +kernel
theorem dX5_evenestEdge_22 : decode cX5_evenestEdge 22 = .ok (.istore 5, 2) := by decide +kernel
theorem dX5_evenestEdge_24 : decode cX5_evenestEdge 24 = .ok (.iload 5, 2) := by decide +kernel
theorem dX5_evenestEdge_26 : decode cX5_evenestEdge 26 = .ok (.aload_n 0, 1) := by decide +kernel
theorem dX5_evenestEdge_27 : decode cX5_evenestEdge 27 = .ok (.getfield 26, 3) := by decide +kernel
theorem dX5_evenestEdge_30 : decode cX5_evenestEdge 30 = .ok (.if_icmp .ge 63, 3) := by decide +kernel
theorem dX5_evenestEdge_33 : decode cX5_evenestEdge 33 = .ok (.aload_n 0, 1) := by decide +kernel
theorem dX5_evenestEdge_34 : decode cX5_evenestEdge 34 = .ok (.getfield 9, 3) := by decide +kernel
theorem dX5_evenestEdge_37 : decode cX5_evenestEdge 37 = .ok (.iload 4, 2) := by decide +kernel
theorem dX5_evenestEdge_39 : decode cX5_evenestEdge 39 = .ok (.iload 5, 2) := by decide +kernel
theorem dX5_evenestEdge_41 : decode cX5_evenestEdge 41 = .ok (.invokevirtual 54, 3) := by decide +kernel
theorem dX5_evenestEdge_44 : decode cX5_evenestEdge 44 = .ok (.ifCond .eq 43, 3) := by decide +kernel
theorem dX5_evenestEdge_47 : decode cX5_evenestEdge 47 = .ok (.aload_n 0, 1) := by decide +kernel
theorem dX5_evenestEdge_48 : decode cX5_evenestEdge 48 = .ok (.iload 4, 2) := by decide +kernel
theorem dX5_evenestEdge_50 : decode cX5_evenestEdge 50 = .ok (.iload_n 1, 1) := by decide +kernel
theorem dX5_evenestEdge_51 : decode cX5_evenestEdge 51 = .ok (.invokevirtual 47, 3) := by decide +kernel
theorem dX5_evenestEdge_54 : decode cX5_evenestEdge 54 = .ok (.ifCond .eq 33, 3) := by decide +kernel
theorem dX5_evenestEdge_57 : decode cX5_evenestEdge 57 = .ok (.aload_n 0, 1) := by decide +kernel
theorem dX5_evenestEdge_58 : decode cX5_evenestEdge 58 = .ok (.iload 4, 2) := by decide +kernel
theorem dX5_evenestEdge_60 : decode cX5_evenestEdge 60 = .ok (.iload 5, 2) := by decide +kernel
theorem dX5_evenestEdge_62 : decode cX5_evenestEdge 62 = .ok (.invokevirtual 78, 3) := by decide +kernel
theorem dX5_evenestEdge_65 : decode cX5_evenestEdge 65 = .ok (.iload_n 3, 1) := by decide +kernel
theorem dX5_evenestEdge_66 : decode cX5_evenestEdge 66 = .ok (.if_icmp .ge 21, 3) := by decide +kernel
theorem dX5_evenestEdge_69 : decode cX5_evenestEdge 69 = .ok (.bipush 100, 2) := by decide +kernel
theorem dX5_evenestEdge_71 : decode cX5_evenestEdge 71 = .ok (.iload 4, 2) := by decide +kernel
theorem dX5_evenestEdge_73 : decode cX5_evenestEdge 73 = .ok (.imul, 1) := by decide +kernel
theorem dX5_evenestEdge_74 : decode cX5_evenestEdge 74 = .ok (.iload 5, 2) := by decide +kernel
theorem dX5_evenestEdge_76 : decode cX5_evenestEdge 76 = .ok (.iadd, 1) := by decide +kernel
theorem dX5_evenestEdge_77 : decode cX5_evenestEdge 77 = .ok (.istore_n 2, 1) := by decide +kernel
theorem dX5_evenestEdge_78 : decode cX5_evenestEdge 78 = .ok (.aload_n 0, 1) := by decide +kernel
theorem dX5_evenestEdge_79 : decode cX5_evenestEdge 79 = .ok (.iload 4, 2) := by decide +kernel
theorem dX5_evenestEdge_81 : decode cX5_evenestEdge 81 = .ok (.iload 5, 2) := by decide +kernel
theorem dX5_evenestEdge_83 : decode cX5_evenestEdge 83 = .ok (.invokevirtual 78, 3) := by decide +kernel
theorem dX5_evenestEdge_86 : decode cX5_evenestEdge 86 = .ok (.istore_n 3, 1) := by decide +kernel
theorem dX5_evenestEdge_87 : decode cX5_evenestEdge 87 = .ok (.iinc 5 1, 3) := by decide +kernel
theorem dX5_evenestEdge_90 : decode cX5_evenestEdge 90 = .ok (.goto (-66), 3) := by decide +kernel
theorem dX5_evenestEdge_93 : decode cX5_evenestEdge 93 = .ok (.iinc 4 1, 3) := by decide +kernel
theorem dX5_evenestEdge_96 : decode cX5_evenestEdge 96 = .ok (.goto (-87), 3) := by decide +kernel
theorem dX5_evenestEdge_99 : decode cX5_evenestEdge 99 = .ok (.iload_n 2, 1) := by decide +kernel
theorem dX5_evenestEdge_100 : decode cX5_evenestEdge 100 = .ok (.ireturn, 1) := by decide +kernel
theorem dX5_heavierPart_0 : decode cX5_heavierPart 0 = .ok (.iconst 0, 1) := by decide +kernel
theorem dX5_heavierPart_1 : decode cX5_heavierPart 1 = .ok (.istore_n 3, 1) := by decide +kernel
theorem dX5_heavierPart_2 : decode cX5_heavierPart 2 = .ok (.iconst 0, 1) := by decide +kernel
theorem dX5_heavierPart_3 : decode cX5_heavierPart 3 = .ok (.istore 4, 2) := by decide +kernel
theorem dX5_heavierPart_5 : decode cX5_heavierPart 5 = .ok (.iconst 0, 1) := by decide +kernel
theorem dX5_heavierPart_6 : decode cX5_heavierPart 6 = .ok (.istore 5, 2) := by decide +kernel
theorem dX5_heavierPart_8 : decode cX5_heavierPart 8 = .ok (.iload 5, 2) := by decide +kernel
theorem dX5_heavierPart_10 : decode cX5_heavierPart 10 = .ok (.aload_n 0, 1) := by decide +kernel
theorem dX5_heavierPart_11 : decode cX5_heavierPart 11 = .ok (.getfield 26, 3) := by decide +kernel
theorem dX5_heavierPart_14 : decode cX5_heavierPart 14 = .ok (.if_icmp .ge 75, 3) := by decide +kernel
theorem dX5_heavierPart_17 : decode cX5_heavierPart 17 = .ok (.aload_n 0, 1) := by decide +kernel
theorem dX5_heavierPart_18 : decode cX5_heavierPart 18 = .ok (.iload 5, 2) := by decide +kernel
theorem dX5_heavierPart_20 : decode cX5_heavierPart 20 = .ok (.iload_n 1, 1) := by decide +kernel
theorem dX5_heavierPart_21 : decode cX5_heavierPart 21 = .ok (.invokevirtual 47, 3) := by decide +kernel
theorem dX5_heavierPart_24 : decode cX5_heavierPart 24 = .ok (.ifCond .eq 35, 3) := by decide +kernel
theorem dX5_heavierPart_27 : decode cX5_heavierPart 27 = .ok (.aload_n 0, 1) := by decide +kernel
theorem dX5_heavierPart_28 : decode cX5_heavierPart 28 = .ok (.iload 5, 2) := by decide +kernel
theorem dX5_heavierPart_30 : decode cX5_heavierPart 30 = .ok (.iload_n 1, 1) := by decide +kernel
theorem dX5_heavierPart_31 : decode cX5_heavierPart 31 = .ok (.invokevirtual 44, 3) := by decide +kernel
theorem dX5_heavierPart_34 : decode cX5_heavierPart 34 = .ok (.aload_n 0, 1) := by decide +kernel
theorem dX5_heavierPart_35 : decode cX5_heavierPart 35 = .ok (.iload 5, 2) := by decide +kernel
theorem dX5_heavierPart_37 : decode cX5_heavierPart 37 = .ok (.iload_n 2, 1) := by decide +kernel
theorem dX5_heavierPart_38 : decode cX5_heavierPart 38 = .ok (.invokevirtual 44, 3) := by decide +kernel
theorem dX5_heavierPart_41 : decode cX5_heavierPart 41 = .ok (.if_icmp .ge 18, 3) := by decide +kernel
theorem dX5_heavierPart_44 : decode cX5_heavierPart 44 = .ok (.iload_n 3, 1) := by decide +kernel
theorem dX5_heavierPart_45 : decode cX5_heavierPart 45 = .ok (.aload_n 0, 1) := by decide +kernel
theorem dX5_heavierPart_46 : decode cX5_heavierPart 46 = .ok (.getfield 9, 3) := by decide +kernel
theorem dX5_heavierPart_49 : decode cX5_heavierPart 49 = .ok (.iload 5, 2) := by decide +kernel
theorem dX5_heavierPart_51 : decode cX5_heavierPart 51 = .ok (.invokevirtual 68, 3) := by decide +kernel
theorem dX5_heavierPart_54 : decode cX5_heavierPart 54 = .ok (.iadd, 1) := by decide +kernel
theorem dX5_heavierPart_55 : decode cX5_heavierPart 55 = .ok (.istore_n 3, 1) := by decide +kernel
theorem dX5_heavierPart_56 : decode cX5_heavierPart 56 = .ok (.goto 27, 3) := by decide +kernel
theorem dX5_heavierPart_59 : decode cX5_heavierPart 59 = .ok (.aload_n 0, 1) := by decide +kernel
theorem dX5_heavierPart_60 : decode cX5_heavierPart 60 = .ok (.iload 5, 2) := by decide +kernel
theorem dX5_heavierPart_62 : decode cX5_heavierPart 62 = .ok (.iload_n 1, 1) := by decide +kernel
theorem dX5_heavierPart_63 : decode cX5_heavierPart 63 = .ok (.invokevirtual 47, 3) := by decide +kernel
theorem dX5_heavierPart_66 : decode cX5_heavierPart 66 = .ok (.ifCond .eq 17, 3) := by decide +kernel
theorem dX5_heavierPart_69 : decode cX5_heavierPart 69 = .ok (.iload 4, 2) := by decide +kernel
theorem dX5_heavierPart_71 : decode cX5_heavierPart 71 = .ok (.aload_n 0, 1) := by decide +kernel
theorem dX5_heavierPart_72 : decode cX5_heavierPart 72 = .ok (.getfield 9, 3) := by decide +kernel
theorem dX5_heavierPart_75 : decode cX5_heavierPart 75 = .ok (.iload 5, 2) := by decide +kernel
theorem dX5_heavierPart_77 : decode cX5_heavierPart 77 = .ok (.invokevirtual 68, 3) := by decide +kernel
theorem dX5_heavierPart_80 : decode cX5_heavierPart 80 = .ok (.iadd, 1) := by decide +kernel
theorem dX5_heavierPart_81 : decode cX5_heavierPart 81 = .ok (.istore 4, 2) := by decide +kernel
theorem dX5_heavierPart_83 : decode cX5_heavierPart 83 = .ok (.iinc 5 1, 3) := by decide +kernel
theorem dX5_heavierPart_86 : decode cX5_heavierPart 86 = .ok (.goto (-78), 3) := by decide +kernel
theorem dX5_heavierPart_89 : decode cX5_heavierPart 89 = .ok (.iload_n 3, 1) := by decide +kernel
theorem dX5_heavierPart_90 : decode cX5_heavierPart 90 = .ok (.iload 4, 2) := by decide +kernel
theorem dX5_heavierPart_92 : decode cX5_heavierPart 92 = .ok (.invokestatic 81, 3) := by decide +kernel
theorem dX5_heavierPart_95 : decode cX5_heavierPart 95 = .ok (.ireturn, 1) := by decide +kernel
theorem dX5_reachOf_0 : decode cX5_reachOf 0 = .ok (.lconst 0, 1) := by decide +kernel
theorem dX5_reachOf_1 : decode cX5_reachOf 1 = .ok (.lstore_n 3, 1) := by decide +kernel
theorem dX5_reachOf_2 : decode cX5_reachOf 2 = .ok (.iconst 0, 1) := by decide +kernel
theorem dX5_reachOf_3 : decode cX5_reachOf 3 = .ok (.istore 5, 2) := by decide +kernel
theorem dX5_reachOf_5 : decode cX5_reachOf 5 = .ok (.iload 5, 2) := by decide +kernel
theorem dX5_reachOf_7 : decode cX5_reachOf 7 = .ok (.aload_n 0, 1) := by decide +kernel
theorem dX5_reachOf_8 : decode cX5_reachOf 8 = .ok (.getfield 26, 3) := by decide +kernel
theorem dX5_reachOf_11 : decode cX5_reachOf 11 = .ok (.if_icmp .ge 41, 3) := by decide +kernel
theorem dX5_reachOf_14 : decode cX5_reachOf 14 = .ok (.aload_n 0, 1) := by decide +kernel
theorem dX5_reachOf_15 : decode cX5_reachOf 15 = .ok (.iload 5, 2) := by decide +kernel
theorem dX5_reachOf_17 : decode cX5_reachOf 17 = .ok (.iload_n 1, 1) := by decide +kernel
theorem dX5_reachOf_18 : decode cX5_reachOf 18 = .ok (.invokevirtual 47, 3) := by decide +kernel
theorem dX5_reachOf_21 : decode cX5_reachOf 21 = .ok (.ifCond .eq 25, 3) := by decide +kernel
theorem dX5_reachOf_24 : decode cX5_reachOf 24 = .ok (.lload_n 3, 1) := by decide +kernel
theorem dX5_reachOf_25 : decode cX5_reachOf 25 = .ok (.aload_n 0, 1) := by decide +kernel
theorem dX5_reachOf_26 : decode cX5_reachOf 26 = .ok (.getfield 9, 3) := by decide +kernel
theorem dX5_reachOf_29 : decode cX5_reachOf 29 = .ok (.iload 5, 2) := by decide +kernel
theorem dX5_reachOf_31 : decode cX5_reachOf 31 = .ok (.invokevirtual 68, 3) := by decide +kernel
theorem dX5_reachOf_34 : decode cX5_reachOf 34 = .ok (.i2l, 1) := by decide +kernel
theorem dX5_reachOf_35 : decode cX5_reachOf 35 = .ok (.aload_n 0, 1) := by decide +kernel
theorem dX5_reachOf_36 : decode cX5_reachOf 36 = .ok (.iload 5, 2) := by decide +kernel
theorem dX5_reachOf_38 : decode cX5_reachOf 38 = .ok (.iload_n 1, 1) := by decide +kernel
theorem dX5_reachOf_39 : decode cX5_reachOf 39 = .ok (.iload_n 2, 1) := by decide +kernel
theorem dX5_reachOf_40 : decode cX5_reachOf 40 = .ok (.invokevirtual 84, 3) := by decide +kernel
theorem dX5_reachOf_43 : decode cX5_reachOf 43 = .ok (.lmul, 1) := by decide +kernel
theorem dX5_reachOf_44 : decode cX5_reachOf 44 = .ok (.ladd, 1) := by decide +kernel
theorem dX5_reachOf_45 : decode cX5_reachOf 45 = .ok (.lstore_n 3, 1) := by decide +kernel
theorem dX5_reachOf_46 : decode cX5_reachOf 46 = .ok (.iinc 5 1, 3) := by decide +kernel
theorem dX5_reachOf_49 : decode cX5_reachOf 49 = .ok (.goto (-44), 3) := by decide +kernel
theorem dX5_reachOf_52 : decode cX5_reachOf 52 = .ok (.lload_n 3, 1) := by decide +kernel
theorem dX5_reachOf_53 : decode cX5_reachOf 53 = .ok (.lreturn, 1) := by decide +kernel
theorem dX5_chanceOfPath_0 : decode cX5_chanceOfPath 0 = .ok (.ldc2_w 88, 3) := by decide +kernel
theorem dX5_chanceOfPath_3 : decode cX5_chanceOfPath 3 = .ok (.lstore 4, 2) := by decide +kernel
theorem dX5_chanceOfPath_5 : decode cX5_chanceOfPath 5 = .ok (.iload_n 1, 1) := by decide +kernel
theorem dX5_chanceOfPath_6 : decode cX5_chanceOfPath 6 = .ok (.istore 6, 2) := by decide +kernel
theorem dX5_chanceOfPath_8 : decode cX5_chanceOfPath 8 = .ok (.iconst 0, 1) := by decide +kernel
theorem dX5_chanceOfPath_9 : decode cX5_chanceOfPath 9 = .ok (.istore 7, 2) := by decide +kernel
theorem dX5_chanceOfPath_11 : decode cX5_chanceOfPath 11 = .ok (.iload 7, 2) := by decide +kernel
theorem dX5_chanceOfPath_13 : decode cX5_chanceOfPath 13 = .ok (.bipush 12, 2) := by decide +kernel
theorem dX5_chanceOfPath_15 : decode cX5_chanceOfPath 15 = .ok (.if_icmp .ge 35, 3) := by decide +kernel
theorem dX5_chanceOfPath_18 : decode cX5_chanceOfPath 18 = .ok (.iload 6, 2) := by decide +kernel
theorem dX5_chanceOfPath_20 : decode cX5_chanceOfPath 20 = .ok (.iload_n 2, 1) := by decide +kernel
theorem dX5_chanceOfPath_21 : decode cX5_chanceOfPath 21 = .ok (.if_icmp .eq 29, 3) := by decide +kernel
theorem dX5_chanceOfPath_24 : decode cX5_chanceOfPath 24 = .ok (.lload 4, 2) := by decide +kernel
theorem dX5_chanceOfPath_26 : decode cX5_chanceOfPath 26 = .ok (.ldc2_w 90, 3) := by decide +kernel
theorem dX5_chanceOfPath_29 : decode cX5_chanceOfPath 29 = .ok (.ldiv, 1) := by decide +kernel
theorem dX5_chanceOfPath_30 : decode cX5_chanceOfPath 30 = .ok (.iload_n 3, 1) := by decide +kernel
theorem dX5_chanceOfPath_31 : decode cX5_chanceOfPath 31 = .ok (.i2l, 1) := by decide +kernel
theorem dX5_chanceOfPath_32 : decode cX5_chanceOfPath 32 = .ok (.lmul, 1) := by decide +kernel
theorem dX5_chanceOfPath_33 : decode cX5_chanceOfPath 33 = .ok (.lstore 4, 2) := by decide +kernel
theorem dX5_chanceOfPath_35 : decode cX5_chanceOfPath 35 = .ok (.aload_n 0, 1) := by decide +kernel
theorem dX5_chanceOfPath_36 : decode cX5_chanceOfPath 36 = .ok (.iload 6, 2) := by decide +kernel
theorem dX5_chanceOfPath_38 : decode cX5_chanceOfPath 38 = .ok (.iload_n 2, 1) := by decide +kernel
theorem dX5_chanceOfPath_39 : decode cX5_chanceOfPath 39 = .ok (.invokevirtual 51, 3) := by decide +kernel
theorem dX5_chanceOfPath_42 : decode cX5_chanceOfPath 42 = .ok (.istore 6, 2) := by decide +kernel
theorem dX5_chanceOfPath_44 : decode cX5_chanceOfPath 44 = .ok (.iinc 7 1, 3) := by decide +kernel
theorem dX5_chanceOfPath_47 : decode cX5_chanceOfPath 47 = .ok (.goto (-36), 3) := by decide +kernel
theorem dX5_chanceOfPath_50 : decode cX5_chanceOfPath 50 = .ok (.lload 4, 2) := by decide +kernel
theorem dX5_chanceOfPath_52 : decode cX5_chanceOfPath 52 = .ok (.lreturn, 1) := by decide +kernel
theorem dX6_init_0 : decode cX6_init 0 = .ok (.aload_n 0, 1) := by decide +kernel
theorem dX6_init_1 : decode cX6_init 1 = .ok (.invokespecial 1, 3) := by decide +kernel
theorem dX6_init_4 : decode cX6_init 4 = .ok (.aload_n 0, 1) := by decide +kernel
theorem dX6_init_5 : decode cX6_init 5 = .ok (.new 7, 3) := by decide +kernel
theorem dX6_init_8 : decode cX6_init 8 = .ok (.dup, 1) := by decide +kernel
theorem dX6_init_9 : decode cX6_init 9 = .ok (.invokespecial 9, 3) := by decide +kernel
theorem dX6_init_12 : decode cX6_init 12 = .ok (.putfield 10, 3) := by decide +kernel
theorem dX6_init_15 : decode cX6_init 15 = .ok (.aload_n 0, 1) := by decide +kernel
theorem dX6_init_16 : decode cX6_init 16 = .ok (.new 16, 3) := by decide +kernel
theorem dX6_init_19 : decode cX6_init 19 = .ok (.dup, 1) := by decide +kernel
theorem dX6_init_20 : decode cX6_init 20 = .ok (.aload_n 0, 1) := by decide +kernel
theorem dX6_init_21 : decode cX6_init 21 = .ok (.getfield 10, 3) := by decide +kernel
theorem dX6_init_24 : decode cX6_init 24 = .ok (.invokespecial 18, 3) := by decide +kernel
theorem dX6_init_27 : decode cX6_init 27 = .ok (.putfield 21, 3) := by decide +kernel
theorem dX6_init_30 : decode cX6_init 30 = .ok (.aload_n 0, 1) := by decide +kernel
theorem dX6_init_31 : decode cX6_init 31 = .ok (.new 7, 3) := by decide +kernel
theorem dX6_init_34 : decode cX6_init 34 = .ok (.dup, 1) := by decide +kernel
theorem dX6_init_35 : decode cX6_init 35 = .ok (.invokespecial 9, 3) := by decide +kernel
theorem dX6_init_38 : decode cX6_init 38 = .ok (.putfield 25, 3) := by decide +kernel
theorem dX6_init_41 : decode cX6_init 41 = .ok (.aload_n 0, 1) := by decide +kernel
theorem dX6_init_42 : decode cX6_init 42 = .ok (.new 16, 3) := by decide +kernel
theorem dX6_init_45 : decode cX6_init 45 = .ok (.dup, 1) := by decide +kernel
theorem dX6_init_46 : decode cX6_init 46 = .ok (.aload_n 0, 1) := by decide +kernel
theorem dX6_init_47 : decode cX6_init 47 = .ok (.getfield 25, 3) := by decide +kernel
theorem dX6_init_50 : decode cX6_init 50 = .ok (.invokespecial 18, 3) := by decide +kernel
theorem dX6_init_53 : decode cX6_init 53 = .ok (.putfield 28, 3) := by decide +kernel
theorem dX6_init_56 : decode cX6_init 56 = .ok (.aload_n 0, 1) := by decide +kernel
theorem dX6_init_57 : decode cX6_init 57 = .ok (.new 31, 3) := by decide +kernel
theorem dX6_init_60 : decode cX6_init 60 = .ok (.dup, 1) := by decide +kernel
theorem dX6_init_61 : decode cX6_init 61 = .ok (.invokespecial 33, 3) := by decide +kernel
theorem dX6_init_64 : decode cX6_init 64 = .ok (.putfield 34, 3) := by decide +kernel
theorem dX6_init_67 : decode cX6_init 67 = .ok (.aload_n 0, 1) := by decide +kernel
theorem dX6_init_68 : decode cX6_init 68 = .ok (.new 38, 3) := by decide +kernel
theorem dX6_init_71 : decode cX6_init 71 = .ok (.dup, 1) := by decide +kernel
theorem dX6_init_72 : decode cX6_init 72 = .ok (.invokespecial 40, 3) := by decide +kernel
theorem dX6_init_75 : decode cX6_init 75 = .ok (.putfield 41, 3) := by decide +kernel
theorem dX6_init_78 : decode cX6_init 78 = .ok (.aload_n 0, 1) := by decide +kernel
theorem dX6_init_79 : decode cX6_init 79 = .ok (.new 45, 3) := by decide +kernel
theorem dX6_init_82 : decode cX6_init 82 = .ok (.dup, 1) := by decide +kernel
theorem dX6_init_83 : decode cX6_init 83 = .ok (.invokespecial 47, 3) := by decide +kernel
theorem dX6_init_86 : decode cX6_init 86 = .ok (.putfield 48, 3) := by decide +kernel
theorem dX6_init_89 : decode cX6_init 89 = .ok (.aload_n 0, 1) := by decide +kernel
theorem dX6_init_90 : decode cX6_init 90 = .ok (.new 52, 3) := by decide +kernel
theorem dX6_init_93 : decode cX6_init 93 = .ok (.dup, 1) := by decide +kernel
theorem dX6_init_94 : decode cX6_init 94 = .ok (.invokespecial 54, 3) := by decide +kernel
theorem dX6_init_97 : decode cX6_init 97 = .ok (.putfield 55, 3) := by decide +kernel
theorem dX6_init_100 : decode cX6_init 100 = .ok (.aload_n 0, 1) := by decide +kernel
theorem dX6_init_101 : decode cX6_init 101 = .ok (.iconst 2, 1) := by decide +kernel
theorem dX6_init_102 : decode cX6_init 102 = .ok (.anewarray 7, 3) := by decide +kernel
theorem dX6_init_105 : decode cX6_init 105 = .ok (.putfield 59, 3) := by decide +kernel
theorem dX6_init_108 : decode cX6_init 108 = .ok (.iconst 0, 1) := by decide +kernel
theorem dX6_init_109 : decode cX6_init 109 = .ok (.istore_n 1, 1) := by decide +kernel
theorem dX6_init_110 : decode cX6_init 110 = .ok (.iload_n 1, 1) := by decide +kernel
theorem dX6_init_111 : decode cX6_init 111 = .ok (.iconst 2, 1) := by decide +kernel
theorem dX6_init_112 : decode cX6_init 112 = .ok (.if_icmp .ge 22, 3) := by decide +kernel
theorem dX6_init_115 : decode cX6_init 115 = .ok (.aload_n 0, 1) := by decide +kernel
theorem dX6_init_116 : decode cX6_init 116 = .ok (.getfield 59, 3) := by decide +kernel
theorem dX6_init_119 : decode cX6_init 119 = .ok (.iload_n 1, 1) := by decide +kernel
theorem dX6_init_120 : decode cX6_init 120 = .ok (.new 7, 3) := by decide +kernel
theorem dX6_init_123 : decode cX6_init 123 = .ok (.dup, 1) := by decide +kernel
theorem dX6_init_124 : decode cX6_init 124 = .ok (.invokespecial 9, 3) := by decide +kernel
theorem dX6_init_127 : decode cX6_init 127 = .ok (.aastore, 1) := by decide +kernel
theorem dX6_init_128 : decode cX6_init 128 = .ok (.iinc 1 1, 3) := by decide +kernel
theorem dX6_init_131 : decode cX6_init 131 = .ok (.goto (-21), 3) := by decide +kernel
theorem dX6_init_134 : decode cX6_init 134 = .ok (.aload_n 0, 1) := by decide +kernel
theorem dX6_init_135 : decode cX6_init 135 = .ok (.iconst 2, 1) := by decide +kernel
theorem dX6_init_136 : decode cX6_init 136 = .ok (.newarray .boolean, 2) := by decide +kernel
theorem dX6_init_138 : decode cX6_init 138 = .ok (.putfield 63, 3) := by decide +kernel
theorem dX6_init_141 : decode cX6_init 141 = .ok (.return_, 1) := by decide +kernel
theorem dX6_append_0 : decode cX6_append 0 = .ok (.iload_n 1, 1) := by decide +kernel
theorem dX6_append_1 : decode cX6_append 1 = .ok (.ifCond .lt 10, 3) := by decide +kernel
theorem dX6_append_4 : decode cX6_append 4 = .ok (.iload_n 1, 1) := by decide +kernel
theorem dX6_append_5 : decode cX6_append 5 = .ok (.sipush 255, 3) := by decide +kernel
theorem dX6_append_8 : decode cX6_append 8 = .ok (.if_icmp .le 6, 3) := by decide +kernel
theorem dX6_append_11 : decode cX6_append 11 = .ok (.bipush (-2), 2) := by decide +kernel
theorem dX6_append_13 : decode cX6_append 13 = .ok (.ireturn, 1) := by decide +kernel
theorem dX6_append_14 : decode cX6_append 14 = .ok (.aload_n 0, 1) := by decide +kernel
theorem dX6_append_15 : decode cX6_append 15 = .ok (.getfield 41, 3) := by decide +kernel
theorem dX6_append_18 : decode cX6_append 18 = .ok (.iload_n 1, 1) := by decide +kernel
theorem dX6_append_19 : decode cX6_append 19 = .ok (.invokevirtual 67, 3) := by decide +kernel
theorem dX6_append_22 : decode cX6_append 22 = .ok (.ifCond .eq 13, 3) := by decide +kernel
theorem dX6_append_25 : decode cX6_append 25 = .ok (.aload_n 0, 1) := by decide +kernel
theorem dX6_append_26 : decode cX6_append 26 = .ok (.getfield 41, 3) := by decide +kernel
theorem dX6_append_29 : decode cX6_append 29 = .ok (.invokevirtual 71, 3) := by decide +kernel
theorem dX6_append_32 : decode cX6_append 32 = .ok (.goto 5, 3) := by decide +kernel
theorem dX6_append_35 : decode cX6_append 35 = .ok (.bipush (-4), 2) := by decide +kernel
theorem dX6_append_37 : decode cX6_append 37 = .ok (.ireturn, 1) := by decide +kernel
theorem dX6_clearText_0 : decode cX6_clearText 0 = .ok (.aload_n 0, 1) := by decide +kernel
theorem dX6_clearText_1 : decode cX6_clearText 1 = .ok (.getfield 41, 3) := by decide +kernel
theorem dX6_clearText_4 : decode cX6_clearText 4 = .ok (.invokevirtual 71, 3) := by decide +kernel
theorem dX6_clearText_7 : decode cX6_clearText 7 = .ok (.istore_n 1, 1) := by decide +kernel
theorem dX6_clearText_8 : decode cX6_clearText 8 = .ok (.aload_n 0, 1) := by decide +kernel
theorem dX6_clearText_9 : decode cX6_clearText 9 = .ok (.getfield 41, 3) := by decide +kernel
theorem dX6_clearText_12 : decode cX6_clearText 12 = .ok (.invokevirtual 75, 3) := by decide +kernel
theorem dX6_clearText_15 : decode cX6_clearText 15 = .ok (.iload_n 1, 1) := by decide +kernel
theorem dX6_clearText_16 : decode cX6_clearText 16 = .ok (.ireturn, 1) := by decide +kernel
theorem dX6_errorPosition_0 : decode cX6_errorPosition 0 = .ok (.aload_n 0, 1) := by decide +kernel
theorem dX6_errorPosition_1 : decode cX6_errorPosition 1 = .ok (.getfield 41, 3) := by decide +kernel
theorem dX6_errorPosition_4 : decode cX6_errorPosition 4 = .ok (.aload_n 0, 1) := by decide +kernel
theorem dX6_errorPosition_5 : decode cX6_errorPosition 5 = .ok (.getfield 25, 3) := by decide +kernel
theorem dX6_errorPosition_8 : decode cX6_errorPosition 8 = .ok (.invokevirtual 78, 3) := by decide +kernel
theorem dX6_errorPosition_11 : decode cX6_errorPosition 11 = .ok (.ireturn, 1) := by decide +kernel
theorem dX6_load_0 : decode cX6_load 0 = .ok (.aload_n 0, 1) := by decide +kernel
theorem dX6_load_1 : decode cX6_load 1 = .ok (.getfield 41, 3) := by decide +kernel
theorem dX6_load_4 : decode cX6_load 4 = .ok (.aload_n 0, 1) := by decide +kernel
theorem dX6_load_5 : decode cX6_load 5 = .ok (.getfield 25, 3) := by decide +kernel
theorem dX6_load_8 : decode cX6_load 8 = .ok (.invokevirtual 78, 3) := by decide +kernel
theorem dX6_load_11 : decode cX6_load 11 = .ok (.bipush (-9), 2) := by decide +kernel
theorem dX6_load_13 : decode cX6_load 13 = .ok (.if_icmp .eq 6, 3) := by decide +kernel
theorem dX6_load_16 : decode cX6_load 16 = .ok (.bipush (-3), 2) := by decide +kernel
theorem dX6_load_18 : decode cX6_load 18 = .ok (.ireturn, 1) := by decide +kernel
theorem dX6_load_19 : decode cX6_load 19 = .ok (.aload_n 0, 1) := by decide +kernel
theorem dX6_load_20 : decode cX6_load 20 = .ok (.getfield 10, 3) := by decide +kernel
theorem dX6_load_23 : decode cX6_load 23 = .ok (.aload_n 0, 1) := by decide +kernel
theorem dX6_load_24 : decode cX6_load 24 = .ok (.getfield 25, 3) := by decide +kernel
theorem dX6_load_27 : decode cX6_load 27 = .ok (.invokevirtual 82, 3) := by decide +kernel
theorem dX6_load_30 : decode cX6_load 30 = .ok (.aload_n 0, 1) := by decide +kernel
theorem dX6_load_31 : decode cX6_load 31 = .ok (.getfield 48, 3) := by decide +kernel
theorem dX6_load_34 : decode cX6_load 34 = .ok (.invokevirtual 85, 3) := by decide +kernel
theorem dX6_load_37 : decode cX6_load 37 = .ok (.aload_n 0, 1) := by decide +kernel
theorem dX6_load_38 : decode cX6_load 38 = .ok (.invokevirtual 88, 3) := by decide +kernel
theorem dX6_load_41 : decode cX6_load 41 = .ok (.aload_n 0, 1) := by decide +kernel
theorem dX6_load_42 : decode cX6_load 42 = .ok (.getfield 10, 3) := by decide +kernel
theorem dX6_load_45 : decode cX6_load 45 = .ok (.invokevirtual 91, 3) := by decide +kernel
theorem dX6_load_48 : decode cX6_load 48 = .ok (.ireturn, 1) := by decide +kernel
theorem dX6_emptySlots_0 : decode cX6_emptySlots 0 = .ok (.iconst 0, 1) := by decide +kernel
theorem dX6_emptySlots_1 : decode cX6_emptySlots 1 = .ok (.istore_n 1, 1) := by decide +kernel
theorem dX6_emptySlots_2 : decode cX6_emptySlots 2 = .ok (.iload_n 1, 1) := by decide +kernel
theorem dX6_emptySlots_3 : decode cX6_emptySlots 3 = .ok (.iconst 2, 1) := by decide +kernel
theorem dX6_emptySlots_4 : decode cX6_emptySlots 4 = .ok (.if_icmp .ge 16, 3) := by decide +kernel
theorem dX6_emptySlots_7 : decode cX6_emptySlots 7 = .ok (.aload_n 0, 1) := by decide +kernel
theorem dX6_emptySlots_8 : decode cX6_emptySlots 8 = .ok (.getfield 63, 3) := by decide +kernel
theorem dX6_emptySlots_11 : decode cX6_emptySlots 11 = .ok (.iload_n 1, 1) := by decide +kernel
theorem dX6_emptySlots_12 : decode cX6_emptySlots 12 = .ok (.iconst 0, 1) := by decide +kernel
theorem dX6_emptySlots_13 : decode cX6_emptySlots 13 = .ok (.bastore, 1) := by decide +kernel
theorem dX6_emptySlots_14 : decode cX6_emptySlots 14 = .ok (.iinc 1 1, 3) := by decide +kernel
theorem dX6_emptySlots_17 : decode cX6_emptySlots 17 = .ok (.goto (-15), 3) := by decide +kernel
theorem dX6_emptySlots_20 : decode cX6_emptySlots 20 = .ok (.return_, 1) := by decide +kernel
theorem dX6_vertexWeight_0 : decode cX6_vertexWeight 0 = .ok (.aload_n 0, 1) := by decide +kernel
theorem dX6_vertexWeight_1 : decode cX6_vertexWeight 1 = .ok (.getfield 10, 3) := by decide +kernel
theorem dX6_vertexWeight_4 : decode cX6_vertexWeight 4 = .ok (.iload_n 1, 1) := by decide +kernel
theorem dX6_vertexWeight_5 : decode cX6_vertexWeight 5 = .ok (.invokevirtual 94, 3) := by decide +kernel
theorem dX6_vertexWeight_8 : decode cX6_vertexWeight 8 = .ok (.ifCond .eq 14, 3) := by decide +kernel
theorem dX6_vertexWeight_11 : decode cX6_vertexWeight 11 = .ok (.aload_n 0, 1) := by decide +kernel
theorem dX6_vertexWeight_12 : decode cX6_vertexWeight 12 = .ok (.getfield 10, 3) := by decide +kernel
theorem dX6_vertexWeight_15 : decode cX6_vertexWeight 15 = .ok (.iload_n 1, 1) := by decide +kernel
theorem dX6_vertexWeight_16 : decode cX6_vertexWeight 16 = .ok (.invokevirtual 97, 3) := by decide +kernel
theorem dX6_vertexWeight_19 : decode cX6_vertexWeight 19 = .ok (.goto 4, 3) := by decide +kernel
theorem dX6_vertexWeight_22 : decode cX6_vertexWeight 22 = .ok (.iconst (-1), 1) := by decide +kernel
theorem dX6_vertexWeight_23 : decode cX6_vertexWeight 23 = .ok (.ireturn, 1) := by decide +kernel
theorem dX6_edgeWeight_0 : decode cX6_edgeWeight 0 = .ok (.aload_n 0, 1) := by decide +kernel
theorem dX6_edgeWeight_1 : decode cX6_edgeWeight 1 = .ok (.getfield 10, 3) := by decide +kernel
theorem dX6_edgeWeight_4 : decode cX6_edgeWeight 4 = .ok (.iload_n 1, 1) := by decide +kernel
theorem dX6_edgeWeight_5 : decode cX6_edgeWeight 5 = .ok (.iload_n 2, 1) := by decide +kernel
theorem dX6_edgeWeight_6 : decode cX6_edgeWeight 6 = .ok (.invokevirtual 101, 3) := by decide +kernel
theorem dX6_edgeWeight_9 : decode cX6_edgeWeight 9 = .ok (.ifCond .ne 5, 3) := by decide +kernel
theorem dX6_edgeWeight_12 : decode cX6_edgeWeight 12 = .ok (.iconst (-1), 1) := by decide +kernel
theorem dX6_edgeWeight_13 : decode cX6_edgeWeight 13 = .ok (.ireturn, 1) := by decide +kernel
theorem dX6_edgeWeight_14 : decode cX6_edgeWeight 14 = .ok (.aload_n 0, 1) := by decide +kernel
theorem dX6_edgeWeight_15 : decode cX6_edgeWeight 15 = .ok (.getfield 10, 3) := by decide +kernel
theorem dX6_edgeWeight_18 : decode cX6_edgeWeight 18 = .ok (.iload_n 1, 1) := by decide +kernel
theorem dX6_edgeWeight_19 : decode cX6_edgeWeight 19 = .ok (.iload_n 2, 1) := by decide +kernel
theorem dX6_edgeWeight_20 : decode cX6_edgeWeight 20 = .ok (.invokevirtual 105, 3) := by decide +kernel
theorem dX6_edgeWeight_23 : decode cX6_edgeWeight 23 = .ok (.ifCond .eq 15, 3) := by decide +kernel
theorem dX6_edgeWeight_26 : decode cX6_edgeWeight 26 = .ok (.aload_n 0, 1) := by decide +kernel
theorem dX6_edgeWeight_27 : decode cX6_edgeWeight 27 = .ok (.getfield 10, 3) := by decide +kernel
theorem dX6_edgeWeight_30 : decode cX6_edgeWeight 30 = .ok (.iload_n 1, 1) := by decide +kernel
theorem dX6_edgeWeight_31 : decode cX6_edgeWeight 31 = .ok (.iload_n 2, 1) := by decide +kernel
theorem dX6_edgeWeight_32 : decode cX6_edgeWeight 32 = .ok (.invokevirtual 108, 3) := by decide +kernel
theorem dX6_edgeWeight_35 : decode cX6_edgeWeight 35 = .ok (.goto 5, 3) := by decide +kernel
theorem dX6_edgeWeight_38 : decode cX6_edgeWeight 38 = .ok (.bipush (-9), 2) := by decide +kernel
theorem dX6_edgeWeight_40 : decode cX6_edgeWeight 40 = .ok (.ireturn, 1) := by decide +kernel
theorem dX6_treeOf_0 : decode cX6_treeOf 0 = .ok (.aload_n 0, 1) := by decide +kernel
theorem dX6_treeOf_1 : decode cX6_treeOf 1 = .ok (.getfield 10, 3) := by decide +kernel
theorem dX6_treeOf_4 : decode cX6_treeOf 4 = .ok (.iload_n 1, 1) := by decide +kernel
theorem dX6_treeOf_5 : decode cX6_treeOf 5 = .ok (.invokevirtual 94, 3) := by decide +kernel
theorem dX6_treeOf_8 : decode cX6_treeOf 8 = .ok (.ifCond .ne 5, 3) := by decide +kernel
theorem dX6_treeOf_11 : decode cX6_treeOf 11 = .ok (.iconst (-1), 1) := by decide +kernel
theorem dX6_treeOf_12 : decode cX6_treeOf 12 = .ok (.ireturn, 1) := by decide +kernel
theorem dX6_treeOf_13 : decode cX6_treeOf 13 = .ok (.aload_n 0, 1) := by decide +kernel
theorem dX6_treeOf_14 : decode cX6_treeOf 14 = .ok (.getfield 21, 3) := by decide +kernel
theorem dX6_treeOf_17 : decode cX6_treeOf 17 = .ok (.invokevirtual 112, 3) := by decide +kernel
theorem dX6_treeOf_20 : decode cX6_treeOf 20 = .ok (.aload_n 0, 1) := by decide +kernel
theorem dX6_treeOf_21 : decode cX6_treeOf 21 = .ok (.getfield 21, 3) := by decide +kernel
theorem dX6_treeOf_24 : decode cX6_treeOf 24 = .ok (.iload_n 1, 1) := by decide +kernel
theorem dX6_treeOf_25 : decode cX6_treeOf 25 = .ok (.invokevirtual 115, 3) := by decide +kernel
theorem dX6_treeOf_28 : decode cX6_treeOf 28 = .ok (.ireturn, 1) := by decide +kernel
theorem dX6_link_0 : decode cX6_link 0 = .ok (.aload_n 0, 1) := by decide +kernel
theorem dX6_link_1 : decode cX6_link 1 = .ok (.getfield 10, 3) := by decide +kernel
theorem dX6_link_4 : decode cX6_link 4 = .ok (.aload_n 0, 1) := by decide +kernel
theorem dX6_link_5 : decode cX6_link 5 = .ok (.getfield 21, 3) := by decide +kernel
theorem dX6_link_8 : decode cX6_link 8 = .ok (.iload_n 1, 1) := by decide +kernel
theorem dX6_link_9 : decode cX6_link 9 = .ok (.iload_n 2, 1) := by decide +kernel
theorem dX6_link_10 : decode cX6_link 10 = .ok (.iload_n 3, 1) := by decide +kernel
theorem dX6_link_11 : decode cX6_link 11 = .ok (.invokestatic 118, 3) := by decide +kernel
theorem dX6_link_14 : decode cX6_link 14 = .ok (.istore 4, 2) := by decide +kernel
theorem dX6_link_16 : decode cX6_link 16 = .ok (.iload 4, 2) := by decide +kernel
theorem dX6_link_18 : decode cX6_link 18 = .ok (.ifCond .eq 6, 3) := by decide +kernel
theorem dX6_link_21 : decode cX6_link 21 = .ok (.iload 4, 2) := by decide +kernel
theorem dX6_link_23 : decode cX6_link 23 = .ok (.ireturn, 1) := by decide +kernel
theorem dX6_link_24 : decode cX6_link 24 = .ok (.aload_n 0, 1) := by decide +kernel
theorem dX6_link_25 : decode cX6_link 25 = .ok (.getfield 48, 3) := by decide +kernel
theorem dX6_link_28 : decode cX6_link 28 = .ok (.aload_n 0, 1) := by decide +kernel
theorem dX6_link_29 : decode cX6_link 29 = .ok (.getfield 10, 3) := by decide +kernel
theorem dX6_link_32 : decode cX6_link 32 = .ok (.invokevirtual 122, 3) := by decide +kernel
theorem dX6_link_35 : decode cX6_link 35 = .ok (.aload_n 0, 1) := by decide +kernel
theorem dX6_link_36 : decode cX6_link 36 = .ok (.getfield 10, 3) := by decide +kernel
theorem dX6_link_39 : decode cX6_link 39 = .ok (.iload_n 1, 1) := by decide +kernel
theorem dX6_link_40 : decode cX6_link 40 = .ok (.iload_n 2, 1) := by decide +kernel
theorem dX6_link_41 : decode cX6_link 41 = .ok (.iload_n 3, 1) := by decide +kernel
theorem dX6_link_42 : decode cX6_link 42 = .ok (.invokevirtual 125, 3) := by decide +kernel
theorem dX6_link_45 : decode cX6_link 45 = .ok (.aload_n 0, 1) := by decide +kernel
theorem dX6_link_46 : decode cX6_link 46 = .ok (.getfield 10, 3) := by decide +kernel
theorem dX6_link_49 : decode cX6_link 49 = .ok (.invokevirtual 91, 3) := by decide +kernel
theorem dX6_link_52 : decode cX6_link 52 = .ok (.ireturn, 1) := by decide +kernel
theorem dX6_cut_0 : decode cX6_cut 0 = .ok (.aload_n 0, 1) := by decide +kernel
theorem dX6_cut_1 : decode cX6_cut 1 = .ok (.getfield 10, 3) := by decide +kernel
theorem dX6_cut_4 : decode cX6_cut 4 = .ok (.iload_n 1, 1) := by decide +kernel
theorem dX6_cut_5 : decode cX6_cut 5 = .ok (.iload_n 2, 1) := by decide +kernel
theorem dX6_cut_6 : decode cX6_cut 6 = .ok (.invokestatic 129, 3) := by decide +kernel
theorem dX6_cut_9 : decode cX6_cut 9 = .ok (.istore_n 3, 1) := by decide +kernel
theorem dX6_cut_10 : decode cX6_cut 10 = .ok (.iload_n 3, 1) := by decide +kernel
theorem dX6_cut_11 : decode cX6_cut 11 = .ok (.ifCond .eq 5, 3) := by decide +kernel
theorem dX6_cut_14 : decode cX6_cut 14 = .ok (.iload_n 3, 1) := by decide +kernel
theorem dX6_cut_15 : decode cX6_cut 15 = .ok (.ireturn, 1) := by decide +kernel
theorem dX6_cut_16 : decode cX6_cut 16 = .ok (.aload_n 0, 1) := by decide +kernel
theorem dX6_cut_17 : decode cX6_cut 17 = .ok (.getfield 10, 3) := by decide +kernel
theorem dX6_cut_20 : decode cX6_cut 20 = .ok (.iload_n 1, 1) := by decide +kernel
theorem dX6_cut_21 : decode cX6_cut 21 = .ok (.iload_n 2, 1) := by decide +kernel
theorem dX6_cut_22 : decode cX6_cut 22 = .ok (.invokevirtual 108, 3) := by decide +kernel
theorem dX6_cut_25 : decode cX6_cut 25 = .ok (.istore 4, 2) := by decide +kernel
theorem dX6_cut_27 : decode cX6_cut 27 = .ok (.aload_n 0, 1) := by decide +kernel
theorem dX6_cut_28 : decode cX6_cut 28 = .ok (.getfield 48, 3) := by decide +kernel
theorem dX6_cut_31 : decode cX6_cut 31 = .ok (.aload_n 0, 1) := by decide +kernel
theorem dX6_cut_32 : decode cX6_cut 32 = .ok (.getfield 10, 3) := by decide +kernel
theorem dX6_cut_35 : decode cX6_cut 35 = .ok (.invokevirtual 122, 3) := by decide +kernel
theorem dX6_cut_38 : decode cX6_cut 38 = .ok (.aload_n 0, 1) := by decide +kernel
theorem dX6_cut_39 : decode cX6_cut 39 = .ok (.getfield 10, 3) := by decide +kernel
theorem dX6_cut_42 : decode cX6_cut 42 = .ok (.iload_n 1, 1) := by decide +kernel
theorem dX6_cut_43 : decode cX6_cut 43 = .ok (.iload_n 2, 1) := by decide +kernel
theorem dX6_cut_44 : decode cX6_cut 44 = .ok (.iconst 0, 1) := by decide +kernel
theorem dX6_cut_45 : decode cX6_cut 45 = .ok (.invokevirtual 125, 3) := by decide +kernel
theorem dX6_cut_48 : decode cX6_cut 48 = .ok (.iload 4, 2) := by decide +kernel
theorem dX6_cut_50 : decode cX6_cut 50 = .ok (.ireturn, 1) := by decide +kernel
theorem dX6_setEdgeWeight_0 : decode cX6_setEdgeWeight 0 = .ok (.aload_n 0, 1) := by decide +kernel
theorem dX6_setEdgeWeight_1 : decode cX6_setEdgeWeight 1 = .ok (.getfield 10, 3) := by decide +kernel
theorem dX6_setEdgeWeight_4 : decode cX6_setEdgeWeight 4 = .ok (.iload_n 1, 1) := by decide +kernel
theorem dX6_setEdgeWeight_5 : decode cX6_setEdgeWeight 5 = .ok (.iload_n 2, 1) := by decide +kernel
theorem dX6_setEdgeWeight_6 : decode cX6_setEdgeWeight 6 = .ok (.invokevirtual 101, 3) := by decide +kernel
theorem dX6_setEdgeWeight_9 : decode cX6_setEdgeWeight 9 = .ok (.ifCond .ne 5, 3) := by decide +kernel
theorem dX6_setEdgeWeight_12 : decode cX6_setEdgeWeight 12 = .ok (.iconst (-1), 1) := by decide +kernel
theorem dX6_setEdgeWeight_13 : decode cX6_setEdgeWeight 13 = .ok (.ireturn, 1) := by decide +kernel
theorem dX6_setEdgeWeight_14 : decode cX6_setEdgeWeight 14 = .ok (.iload_n 3, 1) := by decide +kernel
theorem dX6_setEdgeWeight_15 : decode cX6_setEdgeWeight 15 = .ok (.iconst 1, 1) := by decide +kernel
theorem dX6_setEdgeWeight_16 : decode cX6_setEdgeWeight 16 = .ok (.if_icmp .lt 9, 3) := by decide +kernel
theorem dX6_setEdgeWeight_19 : decode cX6_setEdgeWeight 19 = .ok (.iload_n 3, 1) := by decide +kernel
theorem dX6_setEdgeWeight_20 : decode cX6_setEdgeWeight 20 = .ok (.bipush 99, 2) := by decide +kernel
theorem dX6_setEdgeWeight_22 : decode cX6_setEdgeWeight 22 = .ok (.if_icmp .le 6, 3) := by decide +kernel
theorem dX6_setEdgeWeight_25 : decode cX6_setEdgeWeight 25 = .ok (.bipush (-2), 2) := by decide +kernel
theorem dX6_setEdgeWeight_27 : decode cX6_setEdgeWeight 27 = .ok (.ireturn, 1) := by decide +kernel
theorem dX6_setEdgeWeight_28 : decode cX6_setEdgeWeight 28 = .ok (.aload_n 0, 1) := by decide +kernel
theorem dX6_setEdgeWeight_29 : decode cX6_setEdgeWeight 29 = .ok (.getfield 10, 3) := by decide +kernel
theorem dX6_setEdgeWeight_32 : decode cX6_setEdgeWeight 32 = .ok (.iload_n 1, 1) := by decide +kernel
theorem dX6_setEdgeWeight_33 : decode cX6_setEdgeWeight 33 = .ok (.iload_n 2, 1) := by decide +kernel
theorem dX6_setEdgeWeight_34 : decode cX6_setEdgeWeight 34 = .ok (.invokevirtual 105, 3) := by decide +kernel
theorem dX6_setEdgeWeight_37 : decode cX6_setEdgeWeight 37 = .ok (.ifCond .ne 6, 3) := by decide +kernel
theorem dX6_setEdgeWeight_40 : decode cX6_setEdgeWeight 40 = .ok (.bipush (-3), 2) := by decide +kernel
theorem dX6_setEdgeWeight_42 : decode cX6_setEdgeWeight 42 = .ok (.ireturn, 1) := by decide +kernel
theorem dX6_setEdgeWeight_43 : decode cX6_setEdgeWeight 43 = .ok (.aload_n 0, 1) := by decide +kernel
theorem dX6_setEdgeWeight_44 : decode cX6_setEdgeWeight 44 = .ok (.getfield 10, 3) := by decide +kernel
theorem dX6_setEdgeWeight_47 : decode cX6_setEdgeWeight 47 = .ok (.iload_n 1, 1) := by decide +kernel
theorem dX6_setEdgeWeight_48 : decode cX6_setEdgeWeight 48 = .ok (.iload_n 2, 1) := by decide +kernel
theorem dX6_setEdgeWeight_49 : decode cX6_setEdgeWeight 49 = .ok (.invokevirtual 108, 3) := by decide +kernel
theorem dX6_setEdgeWeight_52 : decode cX6_setEdgeWeight 52 = .ok (.istore 4, 2) := by decide +kernel
theorem dX6_setEdgeWeight_54 : decode cX6_setEdgeWeight 54 = .ok (.aload_n 0, 1) := by decide +kernel
theorem dX6_setEdgeWeight_55 : decode cX6_setEdgeWeight 55 = .ok (.getfield 48, 3) := by decide +kernel
theorem dX6_setEdgeWeight_58 : decode cX6_setEdgeWeight 58 = .ok (.aload_n 0, 1) := by decide +kernel
theorem dX6_setEdgeWeight_59 : decode cX6_setEdgeWeight 59 = .ok (.getfield 10, 3) := by decide +kernel
theorem dX6_setEdgeWeight_62 : decode cX6_setEdgeWeight 62 = .ok (.invokevirtual 122, 3) := by decide +kernel
theorem dX6_setEdgeWeight_65 : decode cX6_setEdgeWeight 65 = .ok (.aload_n 0, 1) := by decide +kernel
theorem dX6_setEdgeWeight_66 : decode cX6_setEdgeWeight 66 = .ok (.getfield 10, 3) := by decide +kernel
theorem dX6_setEdgeWeight_69 : decode cX6_setEdgeWeight 69 = .ok (.iload_n 1, 1) := by decide +kernel
theorem dX6_setEdgeWeight_70 : decode cX6_setEdgeWeight 70 = .ok (.iload_n 2, 1) := by decide +kernel
theorem dX6_setEdgeWeight_71 : decode cX6_setEdgeWeight 71 = .ok (.iload_n 3, 1) := by decide +kernel
theorem dX6_setEdgeWeight_72 : decode cX6_setEdgeWeight 72 = .ok (.invokevirtual 125, 3) := by decide +kernel
theorem dX6_setEdgeWeight_75 : decode cX6_setEdgeWeight 75 = .ok (.iload 4, 2) := by decide +kernel
theorem dX6_setEdgeWeight_77 : decode cX6_setEdgeWeight 77 = .ok (.ireturn, 1) := by decide +kernel
theorem dX6_setVertexWeight_0 : decode cX6_setVertexWeight 0 = .ok (.aload_n 0, 1) := by decide +kernel
theorem dX6_setVertexWeight_1 : decode cX6_setVertexWeight 1 = .ok (.getfield 10, 3) := by decide +kernel
theorem dX6_setVertexWeight_4 : decode cX6_setVertexWeight 4 = .ok (.iload_n 1, 1) := by decide +kernel
theorem dX6_setVertexWeight_5 : decode cX6_setVertexWeight 5 = .ok (.invokevirtual 94, 3) := by decide +kernel
theorem dX6_setVertexWeight_8 : decode cX6_setVertexWeight 8 = .ok (.ifCond .ne 5, 3) := by decide +kernel
theorem dX6_setVertexWeight_11 : decode cX6_setVertexWeight 11 = .ok (.iconst (-1), 1) := by decide +kernel
theorem dX6_setVertexWeight_12 : decode cX6_setVertexWeight 12 = .ok (.ireturn, 1) := by decide +kernel
theorem dX6_setVertexWeight_13 : decode cX6_setVertexWeight 13 = .ok (.iload_n 2, 1) := by decide +kernel
theorem dX6_setVertexWeight_14 : decode cX6_setVertexWeight 14 = .ok (.ifCond .lt 9, 3) := by decide +kernel
theorem dX6_setVertexWeight_17 : decode cX6_setVertexWeight 17 = .ok (.iload_n 2, 1) := by decide +kernel
theorem dX6_setVertexWeight_18 : decode cX6_setVertexWeight 18 = .ok (.bipush 99, 2) := by decide +kernel
theorem dX6_setVertexWeight_20 : decode cX6_setVertexWeight 20 = .ok (.if_icmp .le 6, 3) := by decide +kernel
theorem dX6_setVertexWeight_23 : decode cX6_setVertexWeight 23 = .ok (.bipush (-2), 2) := by decide +kernel
theorem dX6_setVertexWeight_25 : decode cX6_setVertexWeight 25 = .ok (.ireturn, 1) := by decide +kernel
theorem dX6_setVertexWeight_26 : decode cX6_setVertexWeight 26 = .ok (.aload_n 0, 1) := by decide +kernel
theorem dX6_setVertexWeight_27 : decode cX6_setVertexWeight 27 = .ok (.getfield 10, 3) := by decide +kernel
theorem dX6_setVertexWeight_30 : decode cX6_setVertexWeight 30 = .ok (.iload_n 1, 1) := by decide +kernel
theorem dX6_setVertexWeight_31 : decode cX6_setVertexWeight 31 = .ok (.invokevirtual 97, 3) := by decide +kernel
theorem dX6_setVertexWeight_34 : decode cX6_setVertexWeight 34 = .ok (.istore_n 3, 1) := by decide +kernel
theorem dX6_setVertexWeight_35 : decode cX6_setVertexWeight 35 = .ok (.aload_n 0, 1) := by decide +kernel
theorem dX6_setVertexWeight_36 : decode cX6_setVertexWeight 36 = .ok (.getfield 48, 3) := by decide +kernel
theorem dX6_setVertexWeight_39 : decode cX6_setVertexWeight 39 = .ok (.aload_n 0, 1) := by decide +kernel
theorem dX6_setVertexWeight_40 : decode cX6_setVertexWeight 40 = .ok (.getfield 10, 3) := by decide +kernel
theorem dX6_setVertexWeight_43 : decode cX6_setVertexWeight 43 = .ok (.invokevirtual 122, 3) := by decide +kernel
theorem dX6_setVertexWeight_46 : decode cX6_setVertexWeight 46 = .ok (.aload_n 0, 1) := by decide +kernel
theorem dX6_setVertexWeight_47 : decode cX6_setVertexWeight 47 = .ok (.getfield 10, 3) := by decide +kernel
theorem dX6_setVertexWeight_50 : decode cX6_setVertexWeight 50 = .ok (.iload_n 1, 1) := by decide +kernel
theorem dX6_setVertexWeight_51 : decode cX6_setVertexWeight 51 = .ok (.iload_n 2, 1) := by decide +kernel
theorem dX6_setVertexWeight_52 : decode cX6_setVertexWeight 52 = .ok (.invokevirtual 133, 3) := by decide +kernel
theorem dX6_setVertexWeight_55 : decode cX6_setVertexWeight 55 = .ok (.iload_n 3, 1) := by decide +kernel
theorem dX6_setVertexWeight_56 : decode cX6_setVertexWeight 56 = .ok (.ireturn, 1) := by decide +kernel
theorem dX6_undo_0 : decode cX6_undo 0 = .ok (.aload_n 0, 1) := by decide +kernel
theorem dX6_undo_1 : decode cX6_undo 1 = .ok (.getfield 48, 3) := by decide +kernel
theorem dX6_undo_4 : decode cX6_undo 4 = .ok (.aload_n 0, 1) := by decide +kernel
theorem dX6_undo_5 : decode cX6_undo 5 = .ok (.getfield 10, 3) := by decide +kernel
theorem dX6_undo_8 : decode cX6_undo 8 = .ok (.invokevirtual 137, 3) := by decide +kernel
theorem dX6_undo_11 : decode cX6_undo 11 = .ok (.ifCond .eq 13, 3) := by decide +kernel
theorem dX6_undo_14 : decode cX6_undo 14 = .ok (.aload_n 0, 1) := by decide +kernel
theorem dX6_undo_15 : decode cX6_undo 15 = .ok (.getfield 48, 3) := by decide +kernel
theorem dX6_undo_18 : decode cX6_undo 18 = .ok (.invokevirtual 141, 3) := by decide +kernel
theorem dX6_undo_21 : decode cX6_undo 21 = .ok (.goto 5, 3) := by decide +kernel
theorem dX6_undo_24 : decode cX6_undo 24 = .ok (.bipush (-3), 2) := by decide +kernel
theorem dX6_undo_26 : decode cX6_undo 26 = .ok (.ireturn, 1) := by decide +kernel
theorem dX6_linkError_0 : decode cX6_linkError 0 = .ok (.aload_n 0, 1) := by decide +kernel
theorem dX6_linkError_1 : decode cX6_linkError 1 = .ok (.iload_n 2, 1) := by decide +kernel
theorem dX6_linkError_2 : decode cX6_linkError 2 = .ok (.iload_n 3, 1) := by decide +kernel
theorem dX6_linkError_3 : decode cX6_linkError 3 = .ok (.invokevirtual 101, 3) := by decide +kernel
theorem dX6_linkError_6 : decode cX6_linkError 6 = .ok (.ifCond .ne 5, 3) := by decide +kernel
theorem dX6_linkError_9 : decode cX6_linkError 9 = .ok (.iconst (-1), 1) := by decide +kernel
theorem dX6_linkError_10 : decode cX6_linkError 10 = .ok (.ireturn, 1) := by decide +kernel
theorem dX6_linkError_11 : decode cX6_linkError 11 = .ok (.iload 4, 2) := by decide +kernel
theorem dX6_linkError_13 : decode cX6_linkError 13 = .ok (.iconst 1, 1) := by decide +kernel
theorem dX6_linkError_14 : decode cX6_linkError 14 = .ok (.if_icmp .lt 10, 3) := by decide +kernel
theorem dX6_linkError_17 : decode cX6_linkError 17 = .ok (.iload 4, 2) := by decide +kernel
theorem dX6_linkError_19 : decode cX6_linkError 19 = .ok (.bipush 99, 2) := by decide +kernel
theorem dX6_linkError_21 : decode cX6_linkError 21 = .ok (.if_icmp .le 6, 3) := by decide +kernel
theorem dX6_linkError_24 : decode cX6_linkError 24 = .ok (.bipush (-2), 2) := by decide +kernel
theorem dX6_linkError_26 : decode cX6_linkError 26 = .ok (.ireturn, 1) := by decide +kernel
theorem dX6_linkError_27 : decode cX6_linkError 27 = .ok (.aload_n 1, 1) := by decide +kernel
theorem dX6_linkError_28 : decode cX6_linkError 28 = .ok (.invokevirtual 112, 3) := by decide +kernel
theorem dX6_linkError_31 : decode cX6_linkError 31 = .ok (.aload_n 1, 1) := by decide +kernel
theorem dX6_linkError_32 : decode cX6_linkError 32 = .ok (.iload_n 2, 1) := by decide +kernel
theorem dX6_linkError_33 : decode cX6_linkError 33 = .ok (.iload_n 3, 1) := by decide +kernel
theorem dX6_linkError_34 : decode cX6_linkError 34 = .ok (.invokevirtual 142, 3) := by decide +kernel
theorem dX6_linkError_37 : decode cX6_linkError 37 = .ok (.ifCond .eq 8, 3) := by decide +kernel
theorem dX6_linkError_40 : decode cX6_linkError 40 = .ok (.bipush (-3), 2) := by decide +kernel
theorem dX6_linkError_42 : decode cX6_linkError 42 = .ok (.goto 4, 3) := by decide +kernel
theorem dX6_linkError_45 : decode cX6_linkError 45 = .ok (.iconst 0, 1) := by decide +kernel
theorem dX6_linkError_46 : decode cX6_linkError 46 = .ok (.ireturn, 1) := by decide +kernel
theorem dX6_cutError_0 : decode cX6_cutError 0 = .ok (.aload_n 0, 1) := by decide +kernel
theorem dX6_cutError_1 : decode cX6_cutError 1 = .ok (.iload_n 1, 1) := by decide +kernel
theorem dX6_cutError_2 : decode cX6_cutError 2 = .ok (.iload_n 2, 1) := by decide +kernel
theorem dX6_cutError_3 : decode cX6_cutError 3 = .ok (.invokevirtual 101, 3) := by decide +kernel
theorem dX6_cutError_6 : decode cX6_cutError 6 = .ok (.ifCond .ne 5, 3) := by decide +kernel
theorem dX6_cutError_9 : decode cX6_cutError 9 = .ok (.iconst (-1), 1) := by decide +kernel
theorem dX6_cutError_10 : decode cX6_cutError 10 = .ok (.ireturn, 1) := by decide +kernel
theorem dX6_cutError_11 : decode cX6_cutError 11 = .ok (.aload_n 0, 1) := by decide +kernel
theorem dX6_cutError_12 : decode cX6_cutError 12 = .ok (.iload_n 1, 1) := by decide +kernel
theorem dX6_cutError_13 : decode cX6_cutError 13 = .ok (.iload_n 2, 1) := by decide +kernel
theorem dX6_cutError_14 : decode cX6_cutError 14 = .ok (.invokevirtual 105, 3) := by decide +kernel
theorem dX6_cutError_17 : decode cX6_cutError 17 = .ok (.ifCond .eq 7, 3) := by decide +kernel
theorem dX6_cutError_20 : decode cX6_cutError 20 = .ok (.iconst 0, 1) := by decide +kernel
theorem dX6_cutError_21 : decode cX6_cutError 21 = .ok (.goto 5, 3) := by decide +kernel
theorem dX6_cutError_24 : decode cX6_cutError 24 = .ok (.bipush (-3), 2) := by decide +kernel
theorem dX6_cutError_26 : decode cX6_cutError 26 = .ok (.ireturn, 1) := by decide +kernel
theorem dX6_distance_0 : decode cX6_distance 0 = .ok (.aload_n 0, 1) := by decide +kernel
theorem dX6_distance_1 : decode cX6_distance 1 = .ok (.getfield 10, 3) := by decide +kernel
theorem dX6_distance_4 : decode cX6_distance 4 = .ok (.iload_n 1, 1) := by decide +kernel
theorem dX6_distance_5 : decode cX6_distance 5 = .ok (.iload_n 2, 1) := by decide +kernel
theorem dX6_distance_6 : decode cX6_distance 6 = .ok (.invokevirtual 101, 3) := by decide +kernel
theorem dX6_distance_9 : decode cX6_distance 9 = .ok (.ifCond .ne 5, 3) := by decide +kernel
theorem dX6_distance_12 : decode cX6_distance 12 = .ok (.iconst (-1), 1) := by decide +kernel
theorem dX6_distance_13 : decode cX6_distance 13 = .ok (.ireturn, 1) := by decide +kernel
theorem dX6_distance_14 : decode cX6_distance 14 = .ok (.aload_n 0, 1) := by decide +kernel
theorem dX6_distance_15 : decode cX6_distance 15 = .ok (.getfield 21, 3) := by decide +kernel
theorem dX6_distance_18 : decode cX6_distance 18 = .ok (.invokevirtual 112, 3) := by decide +kernel
theorem dX6_distance_21 : decode cX6_distance 21 = .ok (.aload_n 0, 1) := by decide +kernel
theorem dX6_distance_22 : decode cX6_distance 22 = .ok (.getfield 21, 3) := by decide +kernel
theorem dX6_distance_25 : decode cX6_distance 25 = .ok (.iload_n 1, 1) := by decide +kernel
theorem dX6_distance_26 : decode cX6_distance 26 = .ok (.iload_n 2, 1) := by decide +kernel
theorem dX6_distance_27 : decode cX6_distance 27 = .ok (.invokevirtual 142, 3) := by decide +kernel
theorem dX6_distance_30 : decode cX6_distance 30 = .ok (.ifCond .eq 15, 3) := by decide +kernel
theorem dX6_distance_33 : decode cX6_distance 33 = .ok (.aload_n 0, 1) := by decide +kernel
theorem dX6_distance_34 : decode cX6_distance 34 = .ok (.getfield 21, 3) := by decide +kernel
theorem dX6_distance_37 : decode cX6_distance 37 = .ok (.iload_n 1, 1) := by decide +kernel
theorem dX6_distance_38 : decode cX6_distance 38 = .ok (.iload_n 2, 1) := by decide +kernel
theorem dX6_distance_39 : decode cX6_distance 39 = .ok (.invokevirtual 145, 3) := by decide +kernel
theorem dX6_distance_42 : decode cX6_distance 42 = .ok (.goto 5, 3) := by decide +kernel
theorem dX6_distance_45 : decode cX6_distance 45 = .ok (.bipush (-9), 2) := by decide +kernel
theorem dX6_distance_47 : decode cX6_distance 47 = .ok (.ireturn, 1) := by decide +kernel
theorem dX6_pathVertex_0 : decode cX6_pathVertex 0 = .ok (.aload_n 0, 1) := by decide +kernel
theorem dX6_pathVertex_1 : decode cX6_pathVertex 1 = .ok (.getfield 10, 3) := by decide +kernel
theorem dX6_pathVertex_4 : decode cX6_pathVertex 4 = .ok (.iload_n 1, 1) := by decide +kernel
theorem dX6_pathVertex_5 : decode cX6_pathVertex 5 = .ok (.iload_n 2, 1) := by decide +kernel
theorem dX6_pathVertex_6 : decode cX6_pathVertex 6 = .ok (.invokevirtual 101, 3) := by decide +kernel
theorem dX6_pathVertex_9 : decode cX6_pathVertex 9 = .ok (.ifCond .ne 5, 3) := by decide +kernel
theorem dX6_pathVertex_12 : decode cX6_pathVertex 12 = .ok (.iconst (-1), 1) := by decide +kernel
theorem dX6_pathVertex_13 : decode cX6_pathVertex 13 = .ok (.ireturn, 1) := by decide +kernel
theorem dX6_pathVertex_14 : decode cX6_pathVertex 14 = .ok (.iload_n 3, 1) := by decide +kernel
theorem dX6_pathVertex_15 : decode cX6_pathVertex 15 = .ok (.ifCond .ge 6, 3) := by decide +kernel
theorem dX6_pathVertex_18 : decode cX6_pathVertex 18 = .ok (.bipush (-2), 2) := by decide +kernel
theorem dX6_pathVertex_20 : decode cX6_pathVertex 20 = .ok (.ireturn, 1) := by decide +kernel
theorem dX6_pathVertex_21 : decode cX6_pathVertex 21 = .ok (.aload_n 0, 1) := by decide +kernel
theorem dX6_pathVertex_22 : decode cX6_pathVertex 22 = .ok (.getfield 21, 3) := by decide +kernel
theorem dX6_pathVertex_25 : decode cX6_pathVertex 25 = .ok (.invokevirtual 112, 3) := by decide +kernel
theorem dX6_pathVertex_28 : decode cX6_pathVertex 28 = .ok (.aload_n 0, 1) := by decide +kernel
theorem dX6_pathVertex_29 : decode cX6_pathVertex 29 = .ok (.getfield 21, 3) := by decide +kernel
theorem dX6_pathVertex_32 : decode cX6_pathVertex 32 = .ok (.iload_n 1, 1) := by decide +kernel
theorem dX6_pathVertex_33 : decode cX6_pathVertex 33 = .ok (.iload_n 2, 1) := by decide +kernel
theorem dX6_pathVertex_34 : decode cX6_pathVertex 34 = .ok (.iload_n 3, 1) := by decide +kernel
theorem dX6_pathVertex_35 : decode cX6_pathVertex 35 = .ok (.invokevirtual 148, 3) := by decide +kernel
theorem dX6_pathVertex_38 : decode cX6_pathVertex 38 = .ok (.ireturn, 1) := by decide +kernel
theorem dX6_eccentricity_0 : decode cX6_eccentricity 0 = .ok (.aload_n 0, 1) := by decide +kernel
theorem dX6_eccentricity_1 : decode cX6_eccentricity 1 = .ok (.getfield 10, 3) := by decide +kernel
theorem dX6_eccentricity_4 : decode cX6_eccentricity 4 = .ok (.iload_n 1, 1) := by decide +kernel
theorem dX6_eccentricity_5 : decode cX6_eccentricity 5 = .ok (.invokevirtual 94, 3) := by decide +kernel
theorem dX6_eccentricity_8 : decode cX6_eccentricity 8 = .ok (.ifCond .ne 5, 3) := by decide +kernel
theorem dX6_eccentricity_11 : decode cX6_eccentricity 11 = .ok (.iconst (-1), 1) := by decide +kernel
theorem dX6_eccentricity_12 : decode cX6_eccentricity 12 = .ok (.ireturn, 1) := by decide +kernel
theorem dX6_eccentricity_13 : decode cX6_eccentricity 13 = .ok (.aload_n 0, 1) := by decide +kernel
theorem dX6_eccentricity_14 : decode cX6_eccentricity 14 = .ok (.getfield 21, 3) := by decide +kernel
theorem dX6_eccentricity_17 : decode cX6_eccentricity 17 = .ok (.invokevirtual 112, 3) := by decide +kernel
theorem dX6_eccentricity_20 : decode cX6_eccentricity 20 = .ok (.aload_n 0, 1) := by decide +kernel
theorem dX6_eccentricity_21 : decode cX6_eccentricity 21 = .ok (.getfield 21, 3) := by decide +kernel
theorem dX6_eccentricity_24 : decode cX6_eccentricity 24 = .ok (.iload_n 1, 1) := by decide +kernel
theorem dX6_eccentricity_25 : decode cX6_eccentricity 25 = .ok (.invokevirtual 152, 3) := by decide +kernel
theorem dX6_eccentricity_28 : decode cX6_eccentricity 28 = .ok (.ireturn, 1) := by decide +kernel
theorem dX6_diameter_0 : decode cX6_diameter 0 = .ok (.aload_n 0, 1) := by decide +kernel
theorem dX6_diameter_1 : decode cX6_diameter 1 = .ok (.getfield 10, 3) := by decide +kernel
theorem dX6_diameter_4 : decode cX6_diameter 4 = .ok (.iload_n 1, 1) := by decide +kernel
theorem dX6_diameter_5 : decode cX6_diameter 5 = .ok (.invokevirtual 94, 3) := by decide +kernel
theorem dX6_diameter_8 : decode cX6_diameter 8 = .ok (.ifCond .ne 5, 3) := by decide +kernel
theorem dX6_diameter_11 : decode cX6_diameter 11 = .ok (.iconst (-1), 1) := by decide +kernel
theorem dX6_diameter_12 : decode cX6_diameter 12 = .ok (.ireturn, 1) := by decide +kernel
theorem dX6_diameter_13 : decode cX6_diameter 13 = .ok (.aload_n 0, 1) := by decide +kernel
theorem dX6_diameter_14 : decode cX6_diameter 14 = .ok (.getfield 21, 3) := by decide +kernel
theorem dX6_diameter_17 : decode cX6_diameter 17 = .ok (.invokevirtual 112, 3) := by decide +kernel
theorem dX6_diameter_20 : decode cX6_diameter 20 = .ok (.aload_n 0, 1) := by decide +kernel
theorem dX6_diameter_21 : decode cX6_diameter 21 = .ok (.getfield 21, 3) := by decide +kernel
theorem dX6_diameter_24 : decode cX6_diameter 24 = .ok (.iload_n 1, 1) := by decide +kernel
theorem dX6_diameter_25 : decode cX6_diameter 25 = .ok (.invokevirtual 155, 3) := by decide +kernel
theorem dX6_diameter_28 : decode cX6_diameter 28 = .ok (.ireturn, 1) := by decide +kernel
theorem dX6_diameterEnd_0 : decode cX6_diameterEnd 0 = .ok (.aload_n 0, 1) := by decide +kernel
theorem dX6_diameterEnd_1 : decode cX6_diameterEnd 1 = .ok (.getfield 10, 3) := by decide +kernel
theorem dX6_diameterEnd_4 : decode cX6_diameterEnd 4 = .ok (.iload_n 1, 1) := by decide +kernel
theorem dX6_diameterEnd_5 : decode cX6_diameterEnd 5 = .ok (.invokevirtual 94, 3) := by decide +kernel
theorem dX6_diameterEnd_8 : decode cX6_diameterEnd 8 = .ok (.ifCond .ne 5, 3) := by decide +kernel
theorem dX6_diameterEnd_11 : decode cX6_diameterEnd 11 = .ok (.iconst (-1), 1) := by decide +kernel
theorem dX6_diameterEnd_12 : decode cX6_diameterEnd 12 = .ok (.ireturn, 1) := by decide +kernel
theorem dX6_diameterEnd_13 : decode cX6_diameterEnd 13 = .ok (.iload_n 2, 1) := by decide +kernel
theorem dX6_diameterEnd_14 : decode cX6_diameterEnd 14 = .ok (.ifCond .eq 11, 3) := by decide +kernel
theorem dX6_diameterEnd_17 : decode cX6_diameterEnd 17 = .ok (.iload_n 2, 1) := by decide +kernel
theorem dX6_diameterEnd_18 : decode cX6_diameterEnd 18 = .ok (.iconst 1, 1) := by decide +kernel
theorem dX6_diameterEnd_19 : decode cX6_diameterEnd 19 = .ok (.if_icmp .eq 6, 3) := by decide +kernel
theorem dX6_diameterEnd_22 : decode cX6_diameterEnd 22 = .ok (.bipush (-2), 2) := by decide +kernel
theorem dX6_diameterEnd_24 : decode cX6_diameterEnd 24 = .ok (.ireturn, 1) := by decide +kernel
theorem dX6_diameterEnd_25 : decode cX6_diameterEnd 25 = .ok (.aload_n 0, 1) := by decide +kernel
theorem dX6_diameterEnd_26 : decode cX6_diameterEnd 26 = .ok (.getfield 21, 3) := by decide +kernel
theorem dX6_diameterEnd_29 : decode cX6_diameterEnd 29 = .ok (.invokevirtual 112, 3) := by decide +kernel
theorem dX6_diameterEnd_32 : decode cX6_diameterEnd 32 = .ok (.aload_n 0, 1) := by decide +kernel
theorem dX6_diameterEnd_33 : decode cX6_diameterEnd 33 = .ok (.getfield 21, 3) := by decide +kernel
theorem dX6_diameterEnd_36 : decode cX6_diameterEnd 36 = .ok (.iload_n 1, 1) := by decide +kernel
theorem dX6_diameterEnd_37 : decode cX6_diameterEnd 37 = .ok (.invokevirtual 158, 3) := by decide +kernel
theorem dX6_diameterEnd_40 : decode cX6_diameterEnd 40 = .ok (.istore_n 3, 1) := by decide +kernel
theorem dX6_diameterEnd_41 : decode cX6_diameterEnd 41 = .ok (.iload_n 2, 1) := by decide +kernel
theorem dX6_diameterEnd_42 : decode cX6_diameterEnd 42 = .ok (.ifCond .ne 7, 3) := by decide +kernel
theorem dX6_diameterEnd_45 : decode cX6_diameterEnd 45 = .ok (.iload_n 3, 1) := by decide +kernel
theorem dX6_diameterEnd_46 : decode cX6_diameterEnd 46 = .ok (.goto 11, 3) := by decide +kernel
theorem dX6_diameterEnd_49 : decode cX6_diameterEnd 49 = .ok (.aload_n 0, 1) := by decide +kernel
theorem dX6_diameterEnd_50 : decode cX6_diameterEnd 50 = .ok (.getfield 21, 3) := by decide +kernel
theorem dX6_diameterEnd_53 : decode cX6_diameterEnd 53 = .ok (.iload_n 3, 1) := by decide +kernel
theorem dX6_diameterEnd_54 : decode cX6_diameterEnd 54 = .ok (.invokevirtual 161, 3) := by decide +kernel
theorem dX6_diameterEnd_57 : decode cX6_diameterEnd 57 = .ok (.ireturn, 1) := by decide +kernel
theorem dX6_centre_0 : decode cX6_centre 0 = .ok (.aload_n 0, 1) := by decide +kernel
theorem dX6_centre_1 : decode cX6_centre 1 = .ok (.getfield 10, 3) := by decide +kernel
theorem dX6_centre_4 : decode cX6_centre 4 = .ok (.iload_n 1, 1) := by decide +kernel
theorem dX6_centre_5 : decode cX6_centre 5 = .ok (.invokevirtual 94, 3) := by decide +kernel
theorem dX6_centre_8 : decode cX6_centre 8 = .ok (.ifCond .ne 5, 3) := by decide +kernel
theorem dX6_centre_11 : decode cX6_centre 11 = .ok (.iconst (-1), 1) := by decide +kernel
theorem dX6_centre_12 : decode cX6_centre 12 = .ok (.ireturn, 1) := by decide +kernel
theorem dX6_centre_13 : decode cX6_centre 13 = .ok (.aload_n 0, 1) := by decide +kernel
theorem dX6_centre_14 : decode cX6_centre 14 = .ok (.getfield 21, 3) := by decide +kernel
theorem dX6_centre_17 : decode cX6_centre 17 = .ok (.invokevirtual 112, 3) := by decide +kernel
theorem dX6_centre_20 : decode cX6_centre 20 = .ok (.aload_n 0, 1) := by decide +kernel
theorem dX6_centre_21 : decode cX6_centre 21 = .ok (.getfield 21, 3) := by decide +kernel
theorem dX6_centre_24 : decode cX6_centre 24 = .ok (.iload_n 1, 1) := by decide +kernel
theorem dX6_centre_25 : decode cX6_centre 25 = .ok (.invokevirtual 164, 3) := by decide +kernel
theorem dX6_centre_28 : decode cX6_centre 28 = .ok (.ireturn, 1) := by decide +kernel
theorem dX6_median_0 : decode cX6_median 0 = .ok (.aload_n 0, 1) := by decide +kernel
theorem dX6_median_1 : decode cX6_median 1 = .ok (.getfield 10, 3) := by decide +kernel
theorem dX6_median_4 : decode cX6_median 4 = .ok (.iload_n 1, 1) := by decide +kernel
theorem dX6_median_5 : decode cX6_median 5 = .ok (.invokevirtual 94, 3) := by decide +kernel
theorem dX6_median_8 : decode cX6_median 8 = .ok (.ifCond .ne 5, 3) := by decide +kernel
theorem dX6_median_11 : decode cX6_median 11 = .ok (.iconst (-1), 1) := by decide +kernel
theorem dX6_median_12 : decode cX6_median 12 = .ok (.ireturn, 1) := by decide +kernel
theorem dX6_median_13 : decode cX6_median 13 = .ok (.aload_n 0, 1) := by decide +kernel
theorem dX6_median_14 : decode cX6_median 14 = .ok (.getfield 21, 3) := by decide +kernel
theorem dX6_median_17 : decode cX6_median 17 = .ok (.invokevirtual 112, 3) := by decide +kernel
theorem dX6_median_20 : decode cX6_median 20 = .ok (.aload_n 0, 1) := by decide +kernel
theorem dX6_median_21 : decode cX6_median 21 = .ok (.getfield 21, 3) := by decide +kernel
theorem dX6_median_24 : decode cX6_median 24 = .ok (.iload_n 1, 1) := by decide +kernel
theorem dX6_median_25 : decode cX6_median 25 = .ok (.invokevirtual 167, 3) := by decide +kernel
theorem dX6_median_28 : decode cX6_median 28 = .ok (.ireturn, 1) := by decide +kernel
theorem dX6_cost_0 : decode cX6_cost 0 = .ok (.aload_n 0, 1) := by decide +kernel
theorem dX6_cost_1 : decode cX6_cost 1 = .ok (.getfield 10, 3) := by decide +kernel
theorem dX6_cost_4 : decode cX6_cost 4 = .ok (.iload_n 1, 1) := by decide +kernel
theorem dX6_cost_5 : decode cX6_cost 5 = .ok (.invokevirtual 94, 3) := by decide +kernel
theorem dX6_cost_8 : decode cX6_cost 8 = .ok (.ifCond .ne 5, 3) := by decide +kernel
theorem dX6_cost_11 : decode cX6_cost 11 = .ok (.iconst (-1), 1) := by decide +kernel
theorem dX6_cost_12 : decode cX6_cost 12 = .ok (.ireturn, 1) := by decide +kernel
theorem dX6_cost_13 : decode cX6_cost 13 = .ok (.aload_n 0, 1) := by decide +kernel
theorem dX6_cost_14 : decode cX6_cost 14 = .ok (.getfield 21, 3) := by decide +kernel
theorem dX6_cost_17 : decode cX6_cost 17 = .ok (.invokevirtual 112, 3) := by decide +kernel
theorem dX6_cost_20 : decode cX6_cost 20 = .ok (.aload_n 0, 1) := by decide +kernel
theorem dX6_cost_21 : decode cX6_cost 21 = .ok (.getfield 21, 3) := by decide +kernel
theorem dX6_cost_24 : decode cX6_cost 24 = .ok (.iload_n 1, 1) := by decide +kernel
theorem dX6_cost_25 : decode cX6_cost 25 = .ok (.invokevirtual 170, 3) := by decide +kernel
theorem dX6_cost_28 : decode cX6_cost 28 = .ok (.ireturn, 1) := by decide +kernel
theorem dX6_meeting_0 : decode cX6_meeting 0 = .ok (.aload_n 0, 1) := by decide +kernel
theorem dX6_meeting_1 : decode cX6_meeting 1 = .ok (.getfield 10, 3) := by decide +kernel
theorem dX6_meeting_4 : decode cX6_meeting 4 = .ok (.iload_n 1, 1) := by decide +kernel
theorem dX6_meeting_5 : decode cX6_meeting 5 = .ok (.iload_n 2, 1) := by decide +kernel
theorem dX6_meeting_6 : decode cX6_meeting 6 = .ok (.invokevirtual 101, 3) := by decide +kernel
theorem dX6_meeting_9 : decode cX6_meeting 9 = .ok (.ifCond .eq 14, 3) := by decide +kernel
theorem dX6_meeting_12 : decode cX6_meeting 12 = .ok (.aload_n 0, 1) := by decide +kernel
theorem dX6_meeting_13 : decode cX6_meeting 13 = .ok (.getfield 10, 3) := by decide +kernel
theorem dX6_meeting_16 : decode cX6_meeting 16 = .ok (.iload_n 3, 1) := by decide +kernel
theorem dX6_meeting_17 : decode cX6_meeting 17 = .ok (.invokevirtual 94, 3) := by decide +kernel
theorem dX6_meeting_20 : decode cX6_meeting 20 = .ok (.ifCond .ne 5, 3) := by decide +kernel
theorem dX6_meeting_23 : decode cX6_meeting 23 = .ok (.iconst (-1), 1) := by decide +kernel
theorem dX6_meeting_24 : decode cX6_meeting 24 = .ok (.ireturn, 1) := by decide +kernel
theorem dX6_meeting_25 : decode cX6_meeting 25 = .ok (.aload_n 0, 1) := by decide +kernel
theorem dX6_meeting_26 : decode cX6_meeting 26 = .ok (.getfield 21, 3) := by decide +kernel
theorem dX6_meeting_29 : decode cX6_meeting 29 = .ok (.invokevirtual 112, 3) := by decide +kernel
theorem dX6_meeting_32 : decode cX6_meeting 32 = .ok (.aload_n 0, 1) := by decide +kernel
theorem dX6_meeting_33 : decode cX6_meeting 33 = .ok (.getfield 21, 3) := by decide +kernel
theorem dX6_meeting_36 : decode cX6_meeting 36 = .ok (.iload_n 1, 1) := by decide +kernel
theorem dX6_meeting_37 : decode cX6_meeting 37 = .ok (.iload_n 2, 1) := by decide +kernel
theorem dX6_meeting_38 : decode cX6_meeting 38 = .ok (.iload_n 3, 1) := by decide +kernel
theorem dX6_meeting_39 : decode cX6_meeting 39 = .ok (.invokevirtual 173, 3) := by decide +kernel
theorem dX6_meeting_42 : decode cX6_meeting 42 = .ok (.ireturn, 1) := by decide +kernel
theorem dX6_rounds_0 : decode cX6_rounds 0 = .ok (.aload_n 0, 1) := by decide +kernel
theorem dX6_rounds_1 : decode cX6_rounds 1 = .ok (.getfield 10, 3) := by decide +kernel
theorem dX6_rounds_4 : decode cX6_rounds 4 = .ok (.iload_n 1, 1) := by decide +kernel
theorem dX6_rounds_5 : decode cX6_rounds 5 = .ok (.invokevirtual 94, 3) := by decide +kernel
theorem dX6_rounds_8 : decode cX6_rounds 8 = .ok (.ifCond .ne 5, 3) := by decide +kernel
theorem dX6_rounds_11 : decode cX6_rounds 11 = .ok (.iconst (-1), 1) := by decide +kernel
theorem dX6_rounds_12 : decode cX6_rounds 12 = .ok (.ireturn, 1) := by decide +kernel
theorem dX6_rounds_13 : decode cX6_rounds 13 = .ok (.aload_n 0, 1) := by decide +kernel
theorem dX6_rounds_14 : decode cX6_rounds 14 = .ok (.getfield 34, 3) := by decide +kernel
theorem dX6_rounds_17 : decode cX6_rounds 17 = .ok (.aload_n 0, 1) := by decide +kernel
theorem dX6_rounds_18 : decode cX6_rounds 18 = .ok (.getfield 10, 3) := by decide +kernel
theorem dX6_rounds_21 : decode cX6_rounds 21 = .ok (.iload_n 1, 1) := by decide +kernel
theorem dX6_rounds_22 : decode cX6_rounds 22 = .ok (.invokevirtual 176, 3) := by decide +kernel
theorem dX6_rounds_25 : decode cX6_rounds 25 = .ok (.aload_n 0, 1) := by decide +kernel
theorem dX6_rounds_26 : decode cX6_rounds 26 = .ok (.getfield 34, 3) := by decide +kernel
theorem dX6_rounds_29 : decode cX6_rounds 29 = .ok (.invokevirtual 180, 3) := by decide +kernel
theorem dX6_rounds_32 : decode cX6_rounds 32 = .ok (.ireturn, 1) := by decide +kernel
theorem dX6_removalRound_0 : decode cX6_removalRound 0 = .ok (.aload_n 0, 1) := by decide +kernel
theorem dX6_removalRound_1 : decode cX6_removalRound 1 = .ok (.getfield 10, 3) := by decide +kernel
theorem dX6_removalRound_4 : decode cX6_removalRound 4 = .ok (.iload_n 1, 1) := by decide +kernel
theorem dX6_removalRound_5 : decode cX6_removalRound 5 = .ok (.invokevirtual 94, 3) := by decide +kernel
theorem dX6_removalRound_8 : decode cX6_removalRound 8 = .ok (.ifCond .ne 5, 3) := by decide +kernel
theorem dX6_removalRound_11 : decode cX6_removalRound 11 = .ok (.iconst (-1), 1) := by decide +kernel
theorem dX6_removalRound_12 : decode cX6_removalRound 12 = .ok (.ireturn, 1) := by decide +kernel
theorem dX6_removalRound_13 : decode cX6_removalRound 13 = .ok (.aload_n 0, 1) := by decide +kernel
theorem dX6_removalRound_14 : decode cX6_removalRound 14 = .ok (.getfield 34, 3) := by decide +kernel
theorem dX6_removalRound_17 : decode cX6_removalRound 17 = .ok (.aload_n 0, 1) := by decide +kernel
theorem dX6_removalRound_18 : decode cX6_removalRound 18 = .ok (.getfield 10, 3) := by decide +kernel
theorem dX6_removalRound_21 : decode cX6_removalRound 21 = .ok (.iload_n 1, 1) := by decide +kernel
theorem dX6_removalRound_22 : decode cX6_removalRound 22 = .ok (.invokevirtual 176, 3) := by decide +kernel
theorem dX6_removalRound_25 : decode cX6_removalRound 25 = .ok (.aload_n 0, 1) := by decide +kernel
theorem dX6_removalRound_26 : decode cX6_removalRound 26 = .ok (.getfield 34, 3) := by decide +kernel
theorem dX6_removalRound_29 : decode cX6_removalRound 29 = .ok (.iload_n 1, 1) := by decide +kernel
theorem dX6_removalRound_30 : decode cX6_removalRound 30 = .ok (.invokevirtual 183, 3) := by decide +kernel
theorem dX6_removalRound_33 : decode cX6_removalRound 33 = .ok (.ireturn, 1) := by decide +kernel
theorem dX6_survivor_0 : decode cX6_survivor 0 = .ok (.aload_n 0, 1) := by decide +kernel
theorem dX6_survivor_1 : decode cX6_survivor 1 = .ok (.getfield 10, 3) := by decide +kernel
theorem dX6_survivor_4 : decode cX6_survivor 4 = .ok (.iload_n 1, 1) := by decide +kernel
theorem dX6_survivor_5 : decode cX6_survivor 5 = .ok (.invokevirtual 94, 3) := by decide +kernel
theorem dX6_survivor_8 : decode cX6_survivor 8 = .ok (.ifCond .ne 5, 3) := by decide +kernel
theorem dX6_survivor_11 : decode cX6_survivor 11 = .ok (.iconst (-1), 1) := by decide +kernel
theorem dX6_survivor_12 : decode cX6_survivor 12 = .ok (.ireturn, 1) := by decide +kernel
theorem dX6_survivor_13 : decode cX6_survivor 13 = .ok (.aload_n 0, 1) := by decide +kernel
theorem dX6_survivor_14 : decode cX6_survivor 14 = .ok (.getfield 34, 3) := by decide +kernel
theorem dX6_survivor_17 : decode cX6_survivor 17 = .ok (.aload_n 0, 1) := by decide +kernel
theorem dX6_survivor_18 : decode cX6_survivor 18 = .ok (.getfield 10, 3) := by decide +kernel
theorem dX6_survivor_21 : decode cX6_survivor 21 = .ok (.iload_n 1, 1) := by decide +kernel
theorem dX6_survivor_22 : decode cX6_survivor 22 = .ok (.invokevirtual 176, 3) := by decide +kernel
theorem dX6_survivor_25 : decode cX6_survivor 25 = .ok (.aload_n 0, 1) := by decide +kernel
theorem dX6_survivor_26 : decode cX6_survivor 26 = .ok (.getfield 34, 3) := by decide +kernel
theorem dX6_survivor_29 : decode cX6_survivor 29 = .ok (.invokevirtual 186, 3) := by decide +kernel
theorem dX6_survivor_32 : decode cX6_survivor 32 = .ok (.ireturn, 1) := by decide +kernel
theorem dX6_balancedCut_0 : decode cX6_balancedCut 0 = .ok (.aload_n 0, 1) := by decide +kernel
theorem dX6_balancedCut_1 : decode cX6_balancedCut 1 = .ok (.getfield 10, 3) := by decide +kernel
theorem dX6_balancedCut_4 : decode cX6_balancedCut 4 = .ok (.iload_n 1, 1) := by decide +kernel
theorem dX6_balancedCut_5 : decode cX6_balancedCut 5 = .ok (.invokevirtual 94, 3) := by decide +kernel
theorem dX6_balancedCut_8 : decode cX6_balancedCut 8 = .ok (.ifCond .ne 5, 3) := by decide +kernel
theorem dX6_balancedCut_11 : decode cX6_balancedCut 11 = .ok (.iconst (-1), 1) := by decide +kernel
theorem dX6_balancedCut_12 : decode cX6_balancedCut 12 = .ok (.ireturn, 1) := by decide +kernel
theorem dX6_balancedCut_13 : decode cX6_balancedCut 13 = .ok (.aload_n 0, 1) := by decide +kernel
theorem dX6_balancedCut_14 : decode cX6_balancedCut 14 = .ok (.getfield 21, 3) := by decide +kernel
theorem dX6_balancedCut_17 : decode cX6_balancedCut 17 = .ok (.invokevirtual 112, 3) := by decide +kernel
theorem dX6_balancedCut_20 : decode cX6_balancedCut 20 = .ok (.aload_n 0, 1) := by decide +kernel
theorem dX6_balancedCut_21 : decode cX6_balancedCut 21 = .ok (.getfield 21, 3) := by decide +kernel
theorem dX6_balancedCut_24 : decode cX6_balancedCut 24 = .ok (.iload_n 1, 1) := by decide +kernel
theorem dX6_balancedCut_25 : decode cX6_balancedCut 25 = .ok (.invokevirtual 189, 3) := by decide +kernel
theorem dX6_balancedCut_28 : decode cX6_balancedCut 28 = .ok (.ireturn, 1) := by decide +kernel
theorem dX6_expectedReach_0 : decode cX6_expectedReach 0 = .ok (.aload_n 0, 1) := by decide +kernel
theorem dX6_expectedReach_1 : decode cX6_expectedReach 1 = .ok (.getfield 10, 3) := by decide +kernel
theorem dX6_expectedReach_4 : decode cX6_expectedReach 4 = .ok (.iload_n 1, 1) := by decide +kernel
theorem dX6_expectedReach_5 : decode cX6_expectedReach 5 = .ok (.invokevirtual 94, 3) := by decide +kernel
theorem dX6_expectedReach_8 : decode cX6_expectedReach 8 = .ok (.ifCond .ne 7, 3) := by decide +kernel
theorem dX6_expectedReach_11 : decode cX6_expectedReach 11 = .ok (.ldc2_w 192, 3) := by decide +kernel
theorem dX6_expectedReach_14 : decode cX6_expectedReach 14 = .ok (.lreturn, 1) := by decide +kernel
theorem dX6_expectedReach_15 : decode cX6_expectedReach 15 = .ok (.iload_n 2, 1) := by decide +kernel
theorem dX6_expectedReach_16 : decode cX6_expectedReach 16 = .ok (.ifCond .lt 9, 3) := by decide +kernel
theorem dX6_expectedReach_19 : decode cX6_expectedReach 19 = .ok (.iload_n 2, 1) := by decide +kernel
theorem dX6_expectedReach_20 : decode cX6_expectedReach 20 = .ok (.bipush 10, 2) := by decide +kernel
theorem dX6_expectedReach_22 : decode cX6_expectedReach 22 = .ok (.if_icmp .le 7, 3) := by decide +kernel
theorem dX6_expectedReach_25 : decode cX6_expectedReach 25 = .ok (.ldc2_w 194, 3) := by decide +kernel
theorem dX6_expectedReach_28 : decode cX6_expectedReach 28 = .ok (.lreturn, 1) := by decide +kernel
theorem dX6_expectedReach_29 : decode cX6_expectedReach 29 = .ok (.aload_n 0, 1) := by decide +kernel
theorem dX6_expectedReach_30 : decode cX6_expectedReach 30 = .ok (.getfield 21, 3) := by decide +kernel
theorem dX6_expectedReach_33 : decode cX6_expectedReach 33 = .ok (.invokevirtual 112, 3) := by decide +kernel
theorem dX6_expectedReach_36 : decode cX6_expectedReach 36 = .ok (.aload_n 0, 1) := by decide +kernel
theorem dX6_expectedReach_37 : decode cX6_expectedReach 37 = .ok (.getfield 21, 3) := by decide +kernel
theorem dX6_expectedReach_40 : decode cX6_expectedReach 40 = .ok (.iload_n 1, 1) := by decide +kernel
theorem dX6_expectedReach_41 : decode cX6_expectedReach 41 = .ok (.bipush 10, 2) := by decide +kernel
theorem dX6_expectedReach_43 : decode cX6_expectedReach 43 = .ok (.iload_n 2, 1) := by decide +kernel
theorem dX6_expectedReach_44 : decode cX6_expectedReach 44 = .ok (.isub, 1) := by decide +kernel
theorem dX6_expectedReach_45 : decode cX6_expectedReach 45 = .ok (.invokevirtual 196, 3) := by decide +kernel
theorem dX6_expectedReach_48 : decode cX6_expectedReach 48 = .ok (.lreturn, 1) := by decide +kernel
theorem dX6_observe_0 : decode cX6_observe 0 = .ok (.iload_n 1, 1) := by decide +kernel
theorem dX6_observe_1 : decode cX6_observe 1 = .ok (.ifCond .lt 19, 3) := by decide +kernel
theorem dX6_observe_4 : decode cX6_observe 4 = .ok (.iload_n 1, 1) := by decide +kernel
theorem dX6_observe_5 : decode cX6_observe 5 = .ok (.bipush 12, 2) := by decide +kernel
theorem dX6_observe_7 : decode cX6_observe 7 = .ok (.if_icmp .ge 13, 3) := by decide +kernel
theorem dX6_observe_10 : decode cX6_observe 10 = .ok (.iload_n 2, 1) := by decide +kernel
theorem dX6_observe_11 : decode cX6_observe 11 = .ok (.ifCond .lt 9, 3) := by decide +kernel
theorem dX6_observe_14 : decode cX6_observe 14 = .ok (.iload_n 2, 1) := by decide +kernel
theorem dX6_observe_15 : decode cX6_observe 15 = .ok (.bipush 12, 2) := by decide +kernel
theorem dX6_observe_17 : decode cX6_observe 17 = .ok (.if_icmp .lt 6, 3) := by decide +kernel
theorem dX6_observe_20 : decode cX6_observe 20 = .ok (.bipush (-2), 2) := by decide +kernel
theorem dX6_observe_22 : decode cX6_observe 22 = .ok (.ireturn, 1) := by decide +kernel
theorem dX6_observe_23 : decode cX6_observe 23 = .ok (.iload_n 3, 1) := by decide +kernel
theorem dX6_observe_24 : decode cX6_observe 24 = .ok (.ifCond .lt 10, 3) := by decide +kernel
theorem dX6_observe_27 : decode cX6_observe 27 = .ok (.iload_n 3, 1) := by decide +kernel
theorem dX6_observe_28 : decode cX6_observe 28 = .ok (.sipush 999, 3) := by decide +kernel
theorem dX6_observe_31 : decode cX6_observe 31 = .ok (.if_icmp .le 6, 3) := by decide +kernel
theorem dX6_observe_34 : decode cX6_observe 34 = .ok (.bipush (-2), 2) := by decide +kernel
theorem dX6_observe_36 : decode cX6_observe 36 = .ok (.ireturn, 1) := by decide +kernel
theorem dX6_observe_37 : decode cX6_observe 37 = .ok (.aload_n 0, 1) := by decide +kernel
theorem dX6_observe_38 : decode cX6_observe 38 = .ok (.getfield 55, 3) := by decide +kernel
theorem dX6_observe_41 : decode cX6_observe 41 = .ok (.iload_n 1, 1) := by decide +kernel
theorem dX6_observe_42 : decode cX6_observe 42 = .ok (.iload_n 2, 1) := by decide +kernel
theorem dX6_observe_43 : decode cX6_observe 43 = .ok (.iload_n 3, 1) := by decide +kernel
theorem dX6_observe_44 : decode cX6_observe 44 = .ok (.invokevirtual 200, 3) := by decide +kernel
theorem dX6_observe_47 : decode cX6_observe 47 = .ok (.ireturn, 1) := by decide +kernel
theorem dX6_possibleWeights_0 : decode cX6_possibleWeights 0 = .ok (.aload_n 0, 1) := by decide +kernel
theorem dX6_possibleWeights_1 : decode cX6_possibleWeights 1 = .ok (.getfield 10, 3) := by decide +kernel
theorem dX6_possibleWeights_4 : decode cX6_possibleWeights 4 = .ok (.iload_n 1, 1) := by decide +kernel
theorem dX6_possibleWeights_5 : decode cX6_possibleWeights 5 = .ok (.iload_n 2, 1) := by decide +kernel
theorem dX6_possibleWeights_6 : decode cX6_possibleWeights 6 = .ok (.invokevirtual 101, 3) := by decide +kernel
theorem dX6_possibleWeights_9 : decode cX6_possibleWeights 9 = .ok (.ifCond .ne 5, 3) := by decide +kernel
theorem dX6_possibleWeights_12 : decode cX6_possibleWeights 12 = .ok (.iconst (-1), 1) := by decide +kernel
theorem dX6_possibleWeights_13 : decode cX6_possibleWeights 13 = .ok (.ireturn, 1) := by decide +kernel
theorem dX6_possibleWeights_14 : decode cX6_possibleWeights 14 = .ok (.aload_n 0, 1) := by decide +kernel
theorem dX6_possibleWeights_15 : decode cX6_possibleWeights 15 = .ok (.getfield 10, 3) := by decide +kernel
theorem dX6_possibleWeights_18 : decode cX6_possibleWeights 18 = .ok (.iload_n 1, 1) := by decide +kernel
theorem dX6_possibleWeights_19 : decode cX6_possibleWeights 19 = .ok (.iload_n 2, 1) := by decide +kernel
theorem dX6_possibleWeights_20 : decode cX6_possibleWeights 20 = .ok (.invokevirtual 105, 3) := by decide +kernel
theorem dX6_possibleWeights_23 : decode cX6_possibleWeights 23 = .ok (.ifCond .ne 6, 3) := by decide +kernel
theorem dX6_possibleWeights_26 : decode cX6_possibleWeights 26 = .ok (.bipush (-3), 2) := by decide +kernel
theorem dX6_possibleWeights_28 : decode cX6_possibleWeights 28 = .ok (.ireturn, 1) := by decide +kernel
theorem dX6_possibleWeights_29 : decode cX6_possibleWeights 29 = .ok (.aload_n 0, 1) := by decide +kernel
theorem dX6_possibleWeights_30 : decode cX6_possibleWeights 30 = .ok (.getfield 21, 3) := by decide +kernel
theorem dX6_possibleWeights_33 : decode cX6_possibleWeights 33 = .ok (.invokevirtual 112, 3) := by decide +kernel
theorem dX6_possibleWeights_36 : decode cX6_possibleWeights 36 = .ok (.aload_n 0, 1) := by decide +kernel
theorem dX6_possibleWeights_37 : decode cX6_possibleWeights 37 = .ok (.getfield 55, 3) := by decide +kernel
theorem dX6_possibleWeights_40 : decode cX6_possibleWeights 40 = .ok (.aload_n 0, 1) := by decide +kernel
theorem dX6_possibleWeights_41 : decode cX6_possibleWeights 41 = .ok (.getfield 21, 3) := by decide +kernel
theorem dX6_possibleWeights_44 : decode cX6_possibleWeights 44 = .ok (.iload_n 1, 1) := by decide +kernel
theorem dX6_possibleWeights_45 : decode cX6_possibleWeights 45 = .ok (.iload_n 2, 1) := by decide +kernel
theorem dX6_possibleWeights_46 : decode cX6_possibleWeights 46 = .ok (.invokevirtual 203, 3) := by decide +kernel
theorem dX6_possibleWeights_49 : decode cX6_possibleWeights 49 = .ok (.ireturn, 1) := by decide +kernel
theorem dX6_runScript_0 : decode cX6_runScript 0 = .ok (.iload_n 1, 1) := by decide +kernel
theorem dX6_runScript_1 : decode cX6_runScript 1 = .ok (.iconst 1, 1) := by decide +kernel
theorem dX6_runScript_2 : decode cX6_runScript 2 = .ok (.if_icmp .lt 14, 3) := by decide +kernel
theorem dX6_runScript_5 : decode cX6_runScript 5 = .ok (.iload_n 1, 1) := by decide +kernel
theorem dX6_runScript_6 : decode cX6_runScript 6 = .ok (.iconst 3, 1) := by decide +kernel
theorem dX6_runScript_7 : decode cX6_runScript 7 = .ok (.if_icmp .gt 9, 3) := by decide +kernel
theorem dX6_runScript_10 : decode cX6_runScript 10 = .ok (.lload_n 2, 1) := by decide +kernel
theorem dX6_runScript_11 : decode cX6_runScript 11 = .ok (.lconst 0, 1) := by decide +kernel
theorem dX6_runScript_12 : decode cX6_runScript 12 = .ok (.lcmp, 1) := by decide +kernel
theorem dX6_runScript_13 : decode cX6_runScript 13 = .ok (.ifCond .ge 6, 3) := by decide +kernel
theorem dX6_runScript_16 : decode cX6_runScript 16 = .ok (.bipush (-2), 2) := by decide +kernel
theorem dX6_runScript_18 : decode cX6_runScript 18 = .ok (.ireturn, 1) := by decide +kernel
theorem dX6_runScript_19 : decode cX6_runScript 19 = .ok (.lconst 1, 1) := by decide +kernel
theorem dX6_runScript_20 : decode cX6_runScript 20 = .ok (.lstore 4, 2) := by decide +kernel
theorem dX6_runScript_22 : decode cX6_runScript 22 = .ok (.iconst 0, 1) := by decide +kernel
theorem dX6_runScript_23 : decode cX6_runScript 23 = .ok (.istore 6, 2) := by decide +kernel
theorem dX6_runScript_25 : decode cX6_runScript 25 = .ok (.iload 6, 2) := by decide +kernel
theorem dX6_runScript_27 : decode cX6_runScript 27 = .ok (.iload_n 1, 1) := by decide +kernel
theorem dX6_runScript_28 : decode cX6_runScript 28 = .ok (.if_icmp .ge 17, 3) := by decide +kernel
theorem dX6_runScript_31 : decode cX6_runScript 31 = .ok (.lload 4, 2) := by decide +kernel
theorem dX6_runScript_33 : decode cX6_runScript 33 = .ok (.ldc2_w 207, 3) := by decide +kernel
theorem dX6_runScript_36 : decode cX6_runScript 36 = .ok (.lmul, 1) := by decide +kernel
theorem dX6_runScript_37 : decode cX6_runScript 37 = .ok (.lstore 4, 2) := by decide +kernel
theorem dX6_runScript_39 : decode cX6_runScript 39 = .ok (.iinc 6 1, 3) := by decide +kernel
theorem dX6_runScript_42 : decode cX6_runScript 42 = .ok (.goto (-17), 3) := by decide +kernel
theorem dX6_runScript_45 : decode cX6_runScript 45 = .ok (.lload_n 2, 1) := by decide +kernel
theorem dX6_runScript_46 : decode cX6_runScript 46 = .ok (.lload 4, 2) := by decide +kernel
theorem dX6_runScript_48 : decode cX6_runScript 48 = .ok (.lcmp, 1) := by decide +kernel
theorem dX6_runScript_49 : decode cX6_runScript 49 = .ok (.ifCond .lt 6, 3) := by decide +kernel
theorem dX6_runScript_52 : decode cX6_runScript 52 = .ok (.bipush (-2), 2) := by decide +kernel
theorem dX6_runScript_54 : decode cX6_runScript 54 = .ok (.ireturn, 1) := by decide +kernel
theorem dX6_runScript_55 : decode cX6_runScript 55 = .ok (.aload_n 0, 1) := by decide +kernel
theorem dX6_runScript_56 : decode cX6_runScript 56 = .ok (.getfield 25, 3) := by decide +kernel
theorem dX6_runScript_59 : decode cX6_runScript 59 = .ok (.aload_n 0, 1) := by decide +kernel
theorem dX6_runScript_60 : decode cX6_runScript 60 = .ok (.getfield 10, 3) := by decide +kernel
theorem dX6_runScript_63 : decode cX6_runScript 63 = .ok (.invokevirtual 82, 3) := by decide +kernel
theorem dX6_runScript_66 : decode cX6_runScript 66 = .ok (.iconst 0, 1) := by decide +kernel
theorem dX6_runScript_67 : decode cX6_runScript 67 = .ok (.istore 6, 2) := by decide +kernel
theorem dX6_runScript_69 : decode cX6_runScript 69 = .ok (.iload 6, 2) := by decide +kernel
theorem dX6_runScript_71 : decode cX6_runScript 71 = .ok (.iload_n 1, 1) := by decide +kernel
theorem dX6_runScript_72 : decode cX6_runScript 72 = .ok (.if_icmp .ge 43, 3) := by decide +kernel
theorem dX6_runScript_75 : decode cX6_runScript 75 = .ok (.lload 4, 2) := by decide +kernel
theorem dX6_runScript_77 : decode cX6_runScript 77 = .ok (.ldc2_w 207, 3) := by decide +kernel
theorem dX6_runScript_80 : decode cX6_runScript 80 = .ok (.ldiv, 1) := by decide +kernel
theorem dX6_runScript_81 : decode cX6_runScript 81 = .ok (.lstore 4, 2) := by decide +kernel
theorem dX6_runScript_83 : decode cX6_runScript 83 = .ok (.lload 4, 2) := by decide +kernel
theorem dX6_runScript_85 : decode cX6_runScript 85 = .ok (.lconst 1, 1) := by decide +kernel
theorem dX6_runScript_86 : decode cX6_runScript 86 = .ok (.lcmp, 1) := by decide +kernel
theorem dX6_runScript_87 : decode cX6_runScript 87 = .ok (.ifCond .lt 19, 3) := by decide +kernel
theorem dX6_runScript_90 : decode cX6_runScript 90 = .ok (.aload_n 0, 1) := by decide +kernel
theorem dX6_runScript_91 : decode cX6_runScript 91 = .ok (.lload_n 2, 1) := by decide +kernel
theorem dX6_runScript_92 : decode cX6_runScript 92 = .ok (.lload 4, 2) := by decide +kernel
theorem dX6_runScript_94 : decode cX6_runScript 94 = .ok (.ldiv, 1) := by decide +kernel
theorem dX6_runScript_95 : decode cX6_runScript 95 = .ok (.ldc2_w 207, 3) := by decide +kernel
theorem dX6_runScript_98 : decode cX6_runScript 98 = .ok (.lrem, 1) := by decide +kernel
theorem dX6_runScript_99 : decode cX6_runScript 99 = .ok (.l2i, 1) := by decide +kernel
theorem dX6_runScript_100 : decode cX6_runScript 100 = .ok (.invokevirtual 209, 3) := by decide +kernel
theorem dX6_runScript_103 : decode cX6_runScript 103 = .ok (.ifCond .ne 6, 3) := by decide +kernel
theorem dX6_runScript_106 : decode cX6_runScript 106 = .ok (.iload 6, 2) := by decide +kernel
theorem dX6_runScript_108 : decode cX6_runScript 108 = .ok (.ireturn, 1) := by decide +kernel
theorem dX6_runScript_109 : decode cX6_runScript 109 = .ok (.iinc 6 1, 3) := by decide +kernel
theorem dX6_runScript_112 : decode cX6_runScript 112 = .ok (.goto (-43), 3) := by decide +kernel
theorem dX6_runScript_115 : decode cX6_runScript 115 = .ok (.bipush (-9), 2) := by decide +kernel
theorem dX6_runScript_117 : decode cX6_runScript 117 = .ok (.ireturn, 1) := by decide +kernel
theorem dX6_obeys_0 : decode cX6_obeys 0 = .ok (.iload_n 1, 1) := by decide +kernel
theorem dX6_obeys_1 : decode cX6_obeys 1 = .ok (.bipush 100, 2) := by decide +kernel
theorem dX6_obeys_3 : decode cX6_obeys 3 = .ok (.idiv, 1) := by decide +kernel
theorem dX6_obeys_4 : decode cX6_obeys 4 = .ok (.bipush 100, 2) := by decide +kernel
theorem dX6_obeys_6 : decode cX6_obeys 6 = .ok (.irem, 1) := by decide +kernel
theorem dX6_obeys_7 : decode cX6_obeys 7 = .ok (.istore_n 2, 1) := by decide +kernel
theorem dX6_obeys_8 : decode cX6_obeys 8 = .ok (.iload_n 1, 1) := by decide +kernel
theorem dX6_obeys_9 : decode cX6_obeys 9 = .ok (.bipush 100, 2) := by decide +kernel
theorem dX6_obeys_11 : decode cX6_obeys 11 = .ok (.irem, 1) := by decide +kernel
theorem dX6_obeys_12 : decode cX6_obeys 12 = .ok (.istore_n 3, 1) := by decide +kernel
theorem dX6_obeys_13 : decode cX6_obeys 13 = .ok (.iload_n 1, 1) := by decide +kernel
theorem dX6_obeys_14 : decode cX6_obeys 14 = .ok (.sipush 10000, 3) := by decide +kernel
theorem dX6_obeys_17 : decode cX6_obeys 17 = .ok (.idiv, 1) := by decide +kernel
theorem dX6_obeys_18 : decode cX6_obeys 18 = .ok (.tableswitch 106 1 5 #[34, 41, 48, 55, 82], 34) := by decide +kernel
theorem dX6_obeys_52 : decode cX6_obeys 52 = .ok (.aload_n 0, 1) := by decide +kernel
theorem dX6_obeys_53 : decode cX6_obeys 53 = .ok (.iload_n 2, 1) := by decide +kernel
theorem dX6_obeys_54 : decode cX6_obeys 54 = .ok (.iload_n 3, 1) := by decide +kernel
theorem dX6_obeys_55 : decode cX6_obeys 55 = .ok (.invokevirtual 212, 3) := by decide +kernel
theorem dX6_obeys_58 : decode cX6_obeys 58 = .ok (.ireturn, 1) := by decide +kernel
theorem dX6_obeys_59 : decode cX6_obeys 59 = .ok (.aload_n 0, 1) := by decide +kernel
theorem dX6_obeys_60 : decode cX6_obeys 60 = .ok (.iload_n 2, 1) := by decide +kernel
theorem dX6_obeys_61 : decode cX6_obeys 61 = .ok (.iload_n 3, 1) := by decide +kernel
theorem dX6_obeys_62 : decode cX6_obeys 62 = .ok (.invokevirtual 215, 3) := by decide +kernel
theorem dX6_obeys_65 : decode cX6_obeys 65 = .ok (.ireturn, 1) := by decide +kernel
theorem dX6_obeys_66 : decode cX6_obeys 66 = .ok (.aload_n 0, 1) := by decide +kernel
theorem dX6_obeys_67 : decode cX6_obeys 67 = .ok (.iload_n 2, 1) := by decide +kernel
theorem dX6_obeys_68 : decode cX6_obeys 68 = .ok (.iload_n 3, 1) := by decide +kernel
theorem dX6_obeys_69 : decode cX6_obeys 69 = .ok (.invokevirtual 218, 3) := by decide +kernel
theorem dX6_obeys_72 : decode cX6_obeys 72 = .ok (.ireturn, 1) := by decide +kernel
theorem dX6_obeys_73 : decode cX6_obeys 73 = .ok (.aload_n 0, 1) := by decide +kernel
theorem dX6_obeys_74 : decode cX6_obeys 74 = .ok (.iload_n 2, 1) := by decide +kernel
theorem dX6_obeys_75 : decode cX6_obeys 75 = .ok (.iload_n 3, 1) := by decide +kernel
theorem dX6_obeys_76 : decode cX6_obeys 76 = .ok (.invokevirtual 218, 3) := by decide +kernel
theorem dX6_obeys_79 : decode cX6_obeys 79 = .ok (.ifCond .eq 19, 3) := by decide +kernel
theorem dX6_obeys_82 : decode cX6_obeys 82 = .ok (.aload_n 0, 1) := by decide +kernel
theorem dX6_obeys_83 : decode cX6_obeys 83 = .ok (.getfield 28, 3) := by decide +kernel
theorem dX6_obeys_86 : decode cX6_obeys 86 = .ok (.iload_n 2, 1) := by decide +kernel
theorem dX6_obeys_87 : decode cX6_obeys 87 = .ok (.invokevirtual 164, 3) := by decide +kernel
theorem dX6_obeys_90 : decode cX6_obeys 90 = .ok (.iload_n 3, 1) := by decide +kernel
theorem dX6_obeys_91 : decode cX6_obeys 91 = .ok (.if_icmp .ne 7, 3) := by decide +kernel
theorem dX6_obeys_94 : decode cX6_obeys 94 = .ok (.iconst 1, 1) := by decide +kernel
theorem dX6_obeys_95 : decode cX6_obeys 95 = .ok (.goto 4, 3) := by decide +kernel
theorem dX6_obeys_98 : decode cX6_obeys 98 = .ok (.iconst 0, 1) := by decide +kernel
theorem dX6_obeys_99 : decode cX6_obeys 99 = .ok (.ireturn, 1) := by decide +kernel
theorem dX6_obeys_100 : decode cX6_obeys 100 = .ok (.aload_n 0, 1) := by decide +kernel
theorem dX6_obeys_101 : decode cX6_obeys 101 = .ok (.iload_n 2, 1) := by decide +kernel
theorem dX6_obeys_102 : decode cX6_obeys 102 = .ok (.iload_n 3, 1) := by decide +kernel
theorem dX6_obeys_103 : decode cX6_obeys 103 = .ok (.invokevirtual 218, 3) := by decide +kernel
theorem dX6_obeys_106 : decode cX6_obeys 106 = .ok (.ifCond .eq 16, 3) := by decide +kernel
theorem dX6_obeys_109 : decode cX6_obeys 109 = .ok (.aload_n 0, 1) := by decide +kernel
theorem dX6_obeys_110 : decode cX6_obeys 110 = .ok (.iload_n 2, 1) := by decide +kernel
theorem dX6_obeys_111 : decode cX6_obeys 111 = .ok (.iload_n 3, 1) := by decide +kernel
theorem dX6_obeys_112 : decode cX6_obeys 112 = .ok (.invokevirtual 221, 3) := by decide +kernel
theorem dX6_obeys_115 : decode cX6_obeys 115 = .ok (.ifCond .eq 7, 3) := by decide +kernel
theorem dX6_obeys_118 : decode cX6_obeys 118 = .ok (.iconst 1, 1) := by decide +kernel
theorem dX6_obeys_119 : decode cX6_obeys 119 = .ok (.goto 4, 3) := by decide +kernel
theorem dX6_obeys_122 : decode cX6_obeys 122 = .ok (.iconst 0, 1) := by decide +kernel
theorem dX6_obeys_123 : decode cX6_obeys 123 = .ok (.ireturn, 1) := by decide +kernel
theorem dX6_obeys_124 : decode cX6_obeys 124 = .ok (.iconst 0, 1) := by decide +kernel
theorem dX6_obeys_125 : decode cX6_obeys 125 = .ok (.ireturn, 1) := by decide +kernel
theorem dX6_triesLink_0 : decode cX6_triesLink 0 = .ok (.aload_n 0, 1) := by decide +kernel
theorem dX6_triesLink_1 : decode cX6_triesLink 1 = .ok (.getfield 25, 3) := by decide +kernel
theorem dX6_triesLink_4 : decode cX6_triesLink 4 = .ok (.aload_n 0, 1) := by decide +kernel
theorem dX6_triesLink_5 : decode cX6_triesLink 5 = .ok (.getfield 28, 3) := by decide +kernel
theorem dX6_triesLink_8 : decode cX6_triesLink 8 = .ok (.iload_n 1, 1) := by decide +kernel
theorem dX6_triesLink_9 : decode cX6_triesLink 9 = .ok (.iload_n 2, 1) := by decide +kernel
theorem dX6_triesLink_10 : decode cX6_triesLink 10 = .ok (.iconst 1, 1) := by decide +kernel
theorem dX6_triesLink_11 : decode cX6_triesLink 11 = .ok (.invokestatic 118, 3) := by decide +kernel
theorem dX6_triesLink_14 : decode cX6_triesLink 14 = .ok (.ifCond .eq 5, 3) := by decide +kernel
theorem dX6_triesLink_17 : decode cX6_triesLink 17 = .ok (.iconst 0, 1) := by decide +kernel
theorem dX6_triesLink_18 : decode cX6_triesLink 18 = .ok (.ireturn, 1) := by decide +kernel
theorem dX6_triesLink_19 : decode cX6_triesLink 19 = .ok (.aload_n 0, 1) := by decide +kernel
theorem dX6_triesLink_20 : decode cX6_triesLink 20 = .ok (.getfield 25, 3) := by decide +kernel
theorem dX6_triesLink_23 : decode cX6_triesLink 23 = .ok (.iload_n 1, 1) := by decide +kernel
theorem dX6_triesLink_24 : decode cX6_triesLink 24 = .ok (.iload_n 2, 1) := by decide +kernel
theorem dX6_triesLink_25 : decode cX6_triesLink 25 = .ok (.iconst 1, 1) := by decide +kernel
theorem dX6_triesLink_26 : decode cX6_triesLink 26 = .ok (.invokevirtual 125, 3) := by decide +kernel
theorem dX6_triesLink_29 : decode cX6_triesLink 29 = .ok (.iconst 1, 1) := by decide +kernel
theorem dX6_triesLink_30 : decode cX6_triesLink 30 = .ok (.ireturn, 1) := by decide +kernel
theorem dX6_triesCut_0 : decode cX6_triesCut 0 = .ok (.aload_n 0, 1) := by decide +kernel
theorem dX6_triesCut_1 : decode cX6_triesCut 1 = .ok (.getfield 25, 3) := by decide +kernel
theorem dX6_triesCut_4 : decode cX6_triesCut 4 = .ok (.iload_n 1, 1) := by decide +kernel
theorem dX6_triesCut_5 : decode cX6_triesCut 5 = .ok (.iload_n 2, 1) := by decide +kernel
theorem dX6_triesCut_6 : decode cX6_triesCut 6 = .ok (.invokestatic 129, 3) := by decide +kernel
theorem dX6_triesCut_9 : decode cX6_triesCut 9 = .ok (.ifCond .eq 5, 3) := by decide +kernel
theorem dX6_triesCut_12 : decode cX6_triesCut 12 = .ok (.iconst 0, 1) := by decide +kernel
theorem dX6_triesCut_13 : decode cX6_triesCut 13 = .ok (.ireturn, 1) := by decide +kernel
theorem dX6_triesCut_14 : decode cX6_triesCut 14 = .ok (.aload_n 0, 1) := by decide +kernel
theorem dX6_triesCut_15 : decode cX6_triesCut 15 = .ok (.getfield 25, 3) := by decide +kernel
theorem dX6_triesCut_18 : decode cX6_triesCut 18 = .ok (.iload_n 1, 1) := by decide +kernel
theorem dX6_triesCut_19 : decode cX6_triesCut 19 = .ok (.iload_n 2, 1) := by decide +kernel
theorem dX6_triesCut_20 : decode cX6_triesCut 20 = .ok (.iconst 0, 1) := by decide +kernel
theorem dX6_triesCut_21 : decode cX6_triesCut 21 = .ok (.invokevirtual 125, 3) := by decide +kernel
theorem dX6_triesCut_24 : decode cX6_triesCut 24 = .ok (.iconst 1, 1) := by decide +kernel
theorem dX6_triesCut_25 : decode cX6_triesCut 25 = .ok (.ireturn, 1) := by decide +kernel
theorem dX6_joinedInTrial_0 : decode cX6_joinedInTrial 0 = .ok (.aload_n 0, 1) := by decide +kernel
theorem dX6_joinedInTrial_1 : decode cX6_joinedInTrial 1 = .ok (.getfield 28, 3) := by decide +kernel
theorem dX6_joinedInTrial_4 : decode cX6_joinedInTrial 4 = .ok (.invokevirtual 112, 3) := by decide +kernel
theorem dX6_joinedInTrial_7 : decode cX6_joinedInTrial 7 = .ok (.aload_n 0, 1) := by decide +kernel
theorem dX6_joinedInTrial_8 : decode cX6_joinedInTrial 8 = .ok (.getfield 28, 3) := by decide +kernel
theorem dX6_joinedInTrial_11 : decode cX6_joinedInTrial 11 = .ok (.iload_n 1, 1) := by decide +kernel
theorem dX6_joinedInTrial_12 : decode cX6_joinedInTrial 12 = .ok (.iload_n 2, 1) := by decide +kernel
theorem dX6_joinedInTrial_13 : decode cX6_joinedInTrial 13 = .ok (.invokevirtual 142, 3) := by decide +kernel
theorem dX6_joinedInTrial_16 : decode cX6_joinedInTrial 16 = .ok (.ireturn, 1) := by decide +kernel
theorem dX6_leavesEarlier_0 : decode cX6_leavesEarlier 0 = .ok (.aload_n 0, 1) := by decide +kernel
theorem dX6_leavesEarlier_1 : decode cX6_leavesEarlier 1 = .ok (.getfield 34, 3) := by decide +kernel
theorem dX6_leavesEarlier_4 : decode cX6_leavesEarlier 4 = .ok (.aload_n 0, 1) := by decide +kernel
theorem dX6_leavesEarlier_5 : decode cX6_leavesEarlier 5 = .ok (.getfield 25, 3) := by decide +kernel
theorem dX6_leavesEarlier_8 : decode cX6_leavesEarlier 8 = .ok (.iload_n 1, 1) := by decide +kernel
theorem dX6_leavesEarlier_9 : decode cX6_leavesEarlier 9 = .ok (.invokevirtual 176, 3) := by decide +kernel
theorem dX6_leavesEarlier_12 : decode cX6_leavesEarlier 12 = .ok (.aload_n 0, 1) := by decide +kernel
theorem dX6_leavesEarlier_13 : decode cX6_leavesEarlier 13 = .ok (.getfield 34, 3) := by decide +kernel
theorem dX6_leavesEarlier_16 : decode cX6_leavesEarlier 16 = .ok (.iload_n 1, 1) := by decide +kernel
theorem dX6_leavesEarlier_17 : decode cX6_leavesEarlier 17 = .ok (.invokevirtual 183, 3) := by decide +kernel
theorem dX6_leavesEarlier_20 : decode cX6_leavesEarlier 20 = .ok (.istore_n 3, 1) := by decide +kernel
theorem dX6_leavesEarlier_21 : decode cX6_leavesEarlier 21 = .ok (.aload_n 0, 1) := by decide +kernel
theorem dX6_leavesEarlier_22 : decode cX6_leavesEarlier 22 = .ok (.getfield 34, 3) := by decide +kernel
theorem dX6_leavesEarlier_25 : decode cX6_leavesEarlier 25 = .ok (.iload_n 2, 1) := by decide +kernel
theorem dX6_leavesEarlier_26 : decode cX6_leavesEarlier 26 = .ok (.invokevirtual 183, 3) := by decide +kernel
theorem dX6_leavesEarlier_29 : decode cX6_leavesEarlier 29 = .ok (.istore 4, 2) := by decide +kernel
theorem dX6_leavesEarlier_31 : decode cX6_leavesEarlier 31 = .ok (.iload_n 3, 1) := by decide +kernel
theorem dX6_leavesEarlier_32 : decode cX6_leavesEarlier 32 = .ok (.bipush (-9), 2) := by decide +kernel
theorem dX6_leavesEarlier_34 : decode cX6_leavesEarlier 34 = .ok (.if_icmp .eq 20, 3) := by decide +kernel
theorem dX6_leavesEarlier_37 : decode cX6_leavesEarlier 37 = .ok (.iload 4, 2) := by decide +kernel
theorem dX6_leavesEarlier_39 : decode cX6_leavesEarlier 39 = .ok (.bipush (-9), 2) := by decide +kernel
theorem dX6_leavesEarlier_41 : decode cX6_leavesEarlier 41 = .ok (.if_icmp .eq 9, 3) := by decide +kernel
theorem dX6_leavesEarlier_44 : decode cX6_leavesEarlier 44 = .ok (.iload_n 3, 1) := by decide +kernel
theorem dX6_leavesEarlier_45 : decode cX6_leavesEarlier 45 = .ok (.iload 4, 2) := by decide +kernel
theorem dX6_leavesEarlier_47 : decode cX6_leavesEarlier 47 = .ok (.if_icmp .ge 7, 3) := by decide +kernel
theorem dX6_leavesEarlier_50 : decode cX6_leavesEarlier 50 = .ok (.iconst 1, 1) := by decide +kernel
theorem dX6_leavesEarlier_51 : decode cX6_leavesEarlier 51 = .ok (.goto 4, 3) := by decide +kernel
theorem dX6_leavesEarlier_54 : decode cX6_leavesEarlier 54 = .ok (.iconst 0, 1) := by decide +kernel
theorem dX6_leavesEarlier_55 : decode cX6_leavesEarlier 55 = .ok (.ireturn, 1) := by decide +kernel
theorem dX6_randomChanges_0 : decode cX6_randomChanges 0 = .ok (.iload_n 3, 1) := by decide +kernel
theorem dX6_randomChanges_1 : decode cX6_randomChanges 1 = .ok (.iconst 1, 1) := by decide +kernel
theorem dX6_randomChanges_2 : decode cX6_randomChanges 2 = .ok (.if_icmp .lt 9, 3) := by decide +kernel
theorem dX6_randomChanges_5 : decode cX6_randomChanges 5 = .ok (.iload_n 3, 1) := by decide +kernel
theorem dX6_randomChanges_6 : decode cX6_randomChanges 6 = .ok (.bipush 60, 2) := by decide +kernel
theorem dX6_randomChanges_8 : decode cX6_randomChanges 8 = .ok (.if_icmp .le 6, 3) := by decide +kernel
theorem dX6_randomChanges_11 : decode cX6_randomChanges 11 = .ok (.bipush (-2), 2) := by decide +kernel
theorem dX6_randomChanges_13 : decode cX6_randomChanges 13 = .ok (.ireturn, 1) := by decide +kernel
theorem dX6_randomChanges_14 : decode cX6_randomChanges 14 = .ok (.aload_n 0, 1) := by decide +kernel
theorem dX6_randomChanges_15 : decode cX6_randomChanges 15 = .ok (.getfield 25, 3) := by decide +kernel
theorem dX6_randomChanges_18 : decode cX6_randomChanges 18 = .ok (.aload_n 0, 1) := by decide +kernel
theorem dX6_randomChanges_19 : decode cX6_randomChanges 19 = .ok (.getfield 10, 3) := by decide +kernel
theorem dX6_randomChanges_22 : decode cX6_randomChanges 22 = .ok (.invokevirtual 82, 3) := by decide +kernel
theorem dX6_randomChanges_25 : decode cX6_randomChanges 25 = .ok (.lload_n 1, 1) := by decide +kernel
theorem dX6_randomChanges_26 : decode cX6_randomChanges 26 = .ok (.lstore 4, 2) := by decide +kernel
theorem dX6_randomChanges_28 : decode cX6_randomChanges 28 = .ok (.iconst 0, 1) := by decide +kernel
theorem dX6_randomChanges_29 : decode cX6_randomChanges 29 = .ok (.istore 6, 2) := by decide +kernel
theorem dX6_randomChanges_31 : decode cX6_randomChanges 31 = .ok (.iconst 0, 1) := by decide +kernel
theorem dX6_randomChanges_32 : decode cX6_randomChanges 32 = .ok (.istore 7, 2) := by decide +kernel
theorem dX6_randomChanges_34 : decode cX6_randomChanges 34 = .ok (.iload 7, 2) := by decide +kernel
theorem dX6_randomChanges_36 : decode cX6_randomChanges 36 = .ok (.iload_n 3, 1) := by decide +kernel
theorem dX6_randomChanges_37 : decode cX6_randomChanges 37 = .ok (.if_icmp .ge 51, 3) := by decide +kernel
theorem dX6_randomChanges_40 : decode cX6_randomChanges 40 = .ok (.lload 4, 2) := by decide +kernel
theorem dX6_randomChanges_42 : decode cX6_randomChanges 42 = .ok (.ldc2_w 224, 3) := by decide +kernel
theorem dX6_randomChanges_45 : decode cX6_randomChanges 45 = .ok (.lmul, 1) := by decide +kernel
theorem dX6_randomChanges_46 : decode cX6_randomChanges 46 = .ok (.ldc2_w 226, 3) := by decide +kernel
theorem dX6_randomChanges_49 : decode cX6_randomChanges 49 = .ok (.ladd, 1) := by decide +kernel
theorem dX6_randomChanges_50 : decode cX6_randomChanges 50 = .ok (.lstore 4, 2) := by decide +kernel
theorem dX6_randomChanges_52 : decode cX6_randomChanges 52 = .ok (.aload_n 0, 1) := by decide +kernel
theorem dX6_randomChanges_53 : decode cX6_randomChanges 53 = .ok (.lload 4, 2) := by decide +kernel
theorem dX6_randomChanges_55 : decode cX6_randomChanges 55 = .ok (.bipush 33, 2) := by decide +kernel
theorem dX6_randomChanges_57 : decode cX6_randomChanges 57 = .ok (.lushr, 1) := by decide +kernel
theorem dX6_randomChanges_58 : decode cX6_randomChanges 58 = .ok (.l2i, 1) := by decide +kernel
theorem dX6_randomChanges_59 : decode cX6_randomChanges 59 = .ok (.invokevirtual 228, 3) := by decide +kernel
theorem dX6_randomChanges_62 : decode cX6_randomChanges 62 = .ok (.aload_n 0, 1) := by decide +kernel
theorem dX6_randomChanges_63 : decode cX6_randomChanges 63 = .ok (.getfield 28, 3) := by decide +kernel
theorem dX6_randomChanges_66 : decode cX6_randomChanges 66 = .ok (.invokevirtual 112, 3) := by decide +kernel
theorem dX6_randomChanges_69 : decode cX6_randomChanges 69 = .ok (.iload 6, 2) := by decide +kernel
theorem dX6_randomChanges_71 : decode cX6_randomChanges 71 = .ok (.aload_n 0, 1) := by decide +kernel
theorem dX6_randomChanges_72 : decode cX6_randomChanges 72 = .ok (.getfield 28, 3) := by decide +kernel
theorem dX6_randomChanges_75 : decode cX6_randomChanges 75 = .ok (.iconst 0, 1) := by decide +kernel
theorem dX6_randomChanges_76 : decode cX6_randomChanges 76 = .ok (.invokevirtual 155, 3) := by decide +kernel
theorem dX6_randomChanges_79 : decode cX6_randomChanges 79 = .ok (.iadd, 1) := by decide +kernel
theorem dX6_randomChanges_80 : decode cX6_randomChanges 80 = .ok (.istore 6, 2) := by decide +kernel
theorem dX6_randomChanges_82 : decode cX6_randomChanges 82 = .ok (.iinc 7 1, 3) := by decide +kernel
theorem dX6_randomChanges_85 : decode cX6_randomChanges 85 = .ok (.goto (-51), 3) := by decide +kernel
theorem dX6_randomChanges_88 : decode cX6_randomChanges 88 = .ok (.iload 6, 2) := by decide +kernel
theorem dX6_randomChanges_90 : decode cX6_randomChanges 90 = .ok (.ireturn, 1) := by decide +kernel
theorem dX6_changeTrial_0 : decode cX6_changeTrial 0 = .ok (.aload_n 0, 1) := by decide +kernel
theorem dX6_changeTrial_1 : decode cX6_changeTrial 1 = .ok (.getfield 25, 3) := by decide +kernel
theorem dX6_changeTrial_4 : decode cX6_changeTrial 4 = .ok (.invokevirtual 232, 3) := by decide +kernel
theorem dX6_changeTrial_7 : decode cX6_changeTrial 7 = .ok (.istore_n 2, 1) := by decide +kernel
theorem dX6_changeTrial_8 : decode cX6_changeTrial 8 = .ok (.iload_n 2, 1) := by decide +kernel
theorem dX6_changeTrial_9 : decode cX6_changeTrial 9 = .ok (.iconst 1, 1) := by decide +kernel
theorem dX6_changeTrial_10 : decode cX6_changeTrial 10 = .ok (.if_icmp .ge 4, 3) := by decide +kernel
theorem dX6_changeTrial_13 : decode cX6_changeTrial 13 = .ok (.return_, 1) := by decide +kernel
theorem dX6_changeTrial_14 : decode cX6_changeTrial 14 = .ok (.iload_n 1, 1) := by decide +kernel
theorem dX6_changeTrial_15 : decode cX6_changeTrial 15 = .ok (.iload_n 2, 1) := by decide +kernel
theorem dX6_changeTrial_16 : decode cX6_changeTrial 16 = .ok (.irem, 1) := by decide +kernel
theorem dX6_changeTrial_17 : decode cX6_changeTrial 17 = .ok (.istore_n 3, 1) := by decide +kernel
theorem dX6_changeTrial_18 : decode cX6_changeTrial 18 = .ok (.iload_n 1, 1) := by decide +kernel
theorem dX6_changeTrial_19 : decode cX6_changeTrial 19 = .ok (.bipush 16, 2) := by decide +kernel
theorem dX6_changeTrial_21 : decode cX6_changeTrial 21 = .ok (.idiv, 1) := by decide +kernel
theorem dX6_changeTrial_22 : decode cX6_changeTrial 22 = .ok (.iload_n 2, 1) := by decide +kernel
theorem dX6_changeTrial_23 : decode cX6_changeTrial 23 = .ok (.irem, 1) := by decide +kernel
theorem dX6_changeTrial_24 : decode cX6_changeTrial 24 = .ok (.istore 4, 2) := by decide +kernel
theorem dX6_changeTrial_26 : decode cX6_changeTrial 26 = .ok (.iload_n 1, 1) := by decide +kernel
theorem dX6_changeTrial_27 : decode cX6_changeTrial 27 = .ok (.sipush 256, 3) := by decide +kernel
theorem dX6_changeTrial_30 : decode cX6_changeTrial 30 = .ok (.idiv, 1) := by decide +kernel
theorem dX6_changeTrial_31 : decode cX6_changeTrial 31 = .ok (.bipush 99, 2) := by decide +kernel
theorem dX6_changeTrial_33 : decode cX6_changeTrial 33 = .ok (.irem, 1) := by decide +kernel
theorem dX6_changeTrial_34 : decode cX6_changeTrial 34 = .ok (.iconst 1, 1) := by decide +kernel
theorem dX6_changeTrial_35 : decode cX6_changeTrial 35 = .ok (.iadd, 1) := by decide +kernel
theorem dX6_changeTrial_36 : decode cX6_changeTrial 36 = .ok (.istore 5, 2) := by decide +kernel
theorem dX6_changeTrial_38 : decode cX6_changeTrial 38 = .ok (.aload_n 0, 1) := by decide +kernel
theorem dX6_changeTrial_39 : decode cX6_changeTrial 39 = .ok (.getfield 25, 3) := by decide +kernel
theorem dX6_changeTrial_42 : decode cX6_changeTrial 42 = .ok (.iload_n 3, 1) := by decide +kernel
theorem dX6_changeTrial_43 : decode cX6_changeTrial 43 = .ok (.iload 4, 2) := by decide +kernel
theorem dX6_changeTrial_45 : decode cX6_changeTrial 45 = .ok (.invokevirtual 105, 3) := by decide +kernel
theorem dX6_changeTrial_48 : decode cX6_changeTrial 48 = .ok (.ifCond .eq 29, 3) := by decide +kernel
theorem dX6_changeTrial_51 : decode cX6_changeTrial 51 = .ok (.aload_n 0, 1) := by decide +kernel
theorem dX6_changeTrial_52 : decode cX6_changeTrial 52 = .ok (.getfield 25, 3) := by decide +kernel
theorem dX6_changeTrial_55 : decode cX6_changeTrial 55 = .ok (.iload_n 3, 1) := by decide +kernel
theorem dX6_changeTrial_56 : decode cX6_changeTrial 56 = .ok (.iload 4, 2) := by decide +kernel
theorem dX6_changeTrial_58 : decode cX6_changeTrial 58 = .ok (.iload 5, 2) := by decide +kernel
theorem dX6_changeTrial_60 : decode cX6_changeTrial 60 = .ok (.iconst 2, 1) := by decide +kernel
theorem dX6_changeTrial_61 : decode cX6_changeTrial 61 = .ok (.irem, 1) := by decide +kernel
theorem dX6_changeTrial_62 : decode cX6_changeTrial 62 = .ok (.ifCond .ne 7, 3) := by decide +kernel
theorem dX6_changeTrial_65 : decode cX6_changeTrial 65 = .ok (.iconst 0, 1) := by decide +kernel
theorem dX6_changeTrial_66 : decode cX6_changeTrial 66 = .ok (.goto 5, 3) := by decide +kernel
theorem dX6_changeTrial_69 : decode cX6_changeTrial 69 = .ok (.iload 5, 2) := by decide +kernel
theorem dX6_changeTrial_71 : decode cX6_changeTrial 71 = .ok (.invokevirtual 125, 3) := by decide +kernel
theorem dX6_changeTrial_74 : decode cX6_changeTrial 74 = .ok (.goto 34, 3) := by decide +kernel
theorem dX6_changeTrial_77 : decode cX6_changeTrial 77 = .ok (.aload_n 0, 1) := by decide +kernel
theorem dX6_changeTrial_78 : decode cX6_changeTrial 78 = .ok (.getfield 25, 3) := by decide +kernel
theorem dX6_changeTrial_81 : decode cX6_changeTrial 81 = .ok (.aload_n 0, 1) := by decide +kernel
theorem dX6_changeTrial_82 : decode cX6_changeTrial 82 = .ok (.getfield 28, 3) := by decide +kernel
theorem dX6_changeTrial_85 : decode cX6_changeTrial 85 = .ok (.iload_n 3, 1) := by decide +kernel
theorem dX6_changeTrial_86 : decode cX6_changeTrial 86 = .ok (.iload 4, 2) := by decide +kernel
theorem dX6_changeTrial_88 : decode cX6_changeTrial 88 = .ok (.iload 5, 2) := by decide +kernel
theorem dX6_changeTrial_90 : decode cX6_changeTrial 90 = .ok (.invokestatic 118, 3) := by decide +kernel
theorem dX6_changeTrial_93 : decode cX6_changeTrial 93 = .ok (.ifCond .ne 15, 3) := by decide +kernel
theorem dX6_changeTrial_96 : decode cX6_changeTrial 96 = .ok (.aload_n 0, 1) := by decide +kernel
theorem dX6_changeTrial_97 : decode cX6_changeTrial 97 = .ok (.getfield 25, 3) := by decide +kernel
theorem dX6_changeTrial_100 : decode cX6_changeTrial 100 = .ok (.iload_n 3, 1) := by decide +kernel
theorem dX6_changeTrial_101 : decode cX6_changeTrial 101 = .ok (.iload 4, 2) := by decide +kernel
theorem dX6_changeTrial_103 : decode cX6_changeTrial 103 = .ok (.iload 5, 2) := by decide +kernel
theorem dX6_changeTrial_105 : decode cX6_changeTrial 105 = .ok (.invokevirtual 125, 3) := by decide +kernel
theorem dX6_changeTrial_108 : decode cX6_changeTrial 108 = .ok (.return_, 1) := by decide +kernel
theorem dX6_save_0 : decode cX6_save 0 = .ok (.iload_n 1, 1) := by decide +kernel
theorem dX6_save_1 : decode cX6_save 1 = .ok (.ifCond .lt 8, 3) := by decide +kernel
theorem dX6_save_4 : decode cX6_save 4 = .ok (.iload_n 1, 1) := by decide +kernel
theorem dX6_save_5 : decode cX6_save 5 = .ok (.iconst 2, 1) := by decide +kernel
theorem dX6_save_6 : decode cX6_save 6 = .ok (.if_icmp .lt 5, 3) := by decide +kernel
theorem dX6_save_9 : decode cX6_save 9 = .ok (.iconst (-1), 1) := by decide +kernel
theorem dX6_save_10 : decode cX6_save 10 = .ok (.ireturn, 1) := by decide +kernel
theorem dX6_save_11 : decode cX6_save 11 = .ok (.aload_n 0, 1) := by decide +kernel
theorem dX6_save_12 : decode cX6_save 12 = .ok (.getfield 59, 3) := by decide +kernel
theorem dX6_save_15 : decode cX6_save 15 = .ok (.iload_n 1, 1) := by decide +kernel
theorem dX6_save_16 : decode cX6_save 16 = .ok (.aaload, 1) := by decide +kernel
theorem dX6_save_17 : decode cX6_save 17 = .ok (.aload_n 0, 1) := by decide +kernel
theorem dX6_save_18 : decode cX6_save 18 = .ok (.getfield 10, 3) := by decide +kernel
theorem dX6_save_21 : decode cX6_save 21 = .ok (.invokevirtual 82, 3) := by decide +kernel
theorem dX6_save_24 : decode cX6_save 24 = .ok (.aload_n 0, 1) := by decide +kernel
theorem dX6_save_25 : decode cX6_save 25 = .ok (.getfield 63, 3) := by decide +kernel
theorem dX6_save_28 : decode cX6_save 28 = .ok (.iload_n 1, 1) := by decide +kernel
theorem dX6_save_29 : decode cX6_save 29 = .ok (.iconst 1, 1) := by decide +kernel
theorem dX6_save_30 : decode cX6_save 30 = .ok (.bastore, 1) := by decide +kernel
theorem dX6_save_31 : decode cX6_save 31 = .ok (.aload_n 0, 1) := by decide +kernel
theorem dX6_save_32 : decode cX6_save 32 = .ok (.getfield 10, 3) := by decide +kernel
theorem dX6_save_35 : decode cX6_save 35 = .ok (.invokevirtual 91, 3) := by decide +kernel
theorem dX6_save_38 : decode cX6_save 38 = .ok (.ireturn, 1) := by decide +kernel
theorem dX6_restore_0 : decode cX6_restore 0 = .ok (.iload_n 1, 1) := by decide +kernel
theorem dX6_restore_1 : decode cX6_restore 1 = .ok (.ifCond .lt 8, 3) := by decide +kernel
theorem dX6_restore_4 : decode cX6_restore 4 = .ok (.iload_n 1, 1) := by decide +kernel
theorem dX6_restore_5 : decode cX6_restore 5 = .ok (.iconst 2, 1) := by decide +kernel
theorem dX6_restore_6 : decode cX6_restore 6 = .ok (.if_icmp .lt 5, 3) := by decide +kernel
theorem dX6_restore_9 : decode cX6_restore 9 = .ok (.iconst (-1), 1) := by decide +kernel
theorem dX6_restore_10 : decode cX6_restore 10 = .ok (.ireturn, 1) := by decide +kernel
theorem dX6_restore_11 : decode cX6_restore 11 = .ok (.aload_n 0, 1) := by decide +kernel
theorem dX6_restore_12 : decode cX6_restore 12 = .ok (.getfield 63, 3) := by decide +kernel
theorem dX6_restore_15 : decode cX6_restore 15 = .ok (.iload_n 1, 1) := by decide +kernel
theorem dX6_restore_16 : decode cX6_restore 16 = .ok (.baload, 1) := by decide +kernel
theorem dX6_restore_17 : decode cX6_restore 17 = .ok (.ifCond .ne 6, 3) := by decide +kernel
theorem dX6_restore_20 : decode cX6_restore 20 = .ok (.bipush (-3), 2) := by decide +kernel
theorem dX6_restore_22 : decode cX6_restore 22 = .ok (.ireturn, 1) := by decide +kernel
theorem dX6_restore_23 : decode cX6_restore 23 = .ok (.aload_n 0, 1) := by decide +kernel
theorem dX6_restore_24 : decode cX6_restore 24 = .ok (.getfield 10, 3) := by decide +kernel
theorem dX6_restore_27 : decode cX6_restore 27 = .ok (.aload_n 0, 1) := by decide +kernel
theorem dX6_restore_28 : decode cX6_restore 28 = .ok (.getfield 59, 3) := by decide +kernel
theorem dX6_restore_31 : decode cX6_restore 31 = .ok (.iload_n 1, 1) := by decide +kernel
theorem dX6_restore_32 : decode cX6_restore 32 = .ok (.aaload, 1) := by decide +kernel
theorem dX6_restore_33 : decode cX6_restore 33 = .ok (.invokevirtual 82, 3) := by decide +kernel
theorem dX6_restore_36 : decode cX6_restore 36 = .ok (.aload_n 0, 1) := by decide +kernel
theorem dX6_restore_37 : decode cX6_restore 37 = .ok (.getfield 48, 3) := by decide +kernel
theorem dX6_restore_40 : decode cX6_restore 40 = .ok (.invokevirtual 85, 3) := by decide +kernel
theorem dX6_restore_43 : decode cX6_restore 43 = .ok (.aload_n 0, 1) := by decide +kernel
theorem dX6_restore_44 : decode cX6_restore 44 = .ok (.getfield 10, 3) := by decide +kernel
theorem dX6_restore_47 : decode cX6_restore 47 = .ok (.invokevirtual 91, 3) := by decide +kernel
theorem dX6_restore_50 : decode cX6_restore 50 = .ok (.ireturn, 1) := by decide +kernel
end
section
theorem dL_cell_0 : decode cL_cell 0 = .ok (.iload_n 1, 1) := by decide +kernel
theorem dL_cell_1 : decode cL_cell 1 = .ok (.aload_n 0, 1) := by decide +kernel
theorem dL_cell_2 : decode cL_cell 2 = .ok (.arraylength, 1) := by decide +kernel
theorem dL_cell_3 : decode cL_cell 3 = .ok (.if_icmp .ge 9, 3) := by decide +kernel
theorem dL_cell_6 : decode cL_cell 6 = .ok (.aload_n 0, 1) := by decide +kernel
theorem dL_cell_7 : decode cL_cell 7 = .ok (.iload_n 1, 1) := by decide +kernel
theorem dL_cell_8 : decode cL_cell 8 = .ok (.iaload, 1) := by decide +kernel
theorem dL_cell_9 : decode cL_cell 9 = .ok (.goto 11, 3) := by decide +kernel
theorem dL_cell_12 : decode cL_cell 12 = .ok (.ldc 7, 2) := by decide +kernel
theorem dL_cell_14 : decode cL_cell 14 = .ok (.iload_n 1, 1) := by decide +kernel
theorem dL_cell_15 : decode cL_cell 15 = .ok (.imul, 1) := by decide +kernel
theorem dL_cell_16 : decode cL_cell 16 = .ok (.sipush 10069, 3) := by decide +kernel
theorem dL_cell_19 : decode cL_cell 19 = .ok (.iadd, 1) := by decide +kernel
theorem dL_cell_20 : decode cL_cell 20 = .ok (.ldc 8, 2) := by decide +kernel
theorem dL_cell_22 : decode cL_cell 22 = .ok (.iand, 1) := by decide +kernel
theorem dL_cell_23 : decode cL_cell 23 = .ok (.ireturn, 1) := by decide +kernel
theorem dL_vertices_0 : decode cL_vertices 0 = .ok (.iconst 0, 1) := by decide +kernel
theorem dL_vertices_1 : decode cL_vertices 1 = .ok (.istore_n 1, 1) := by decide +kernel
theorem dL_vertices_2 : decode cL_vertices 2 = .ok (.aload_n 0, 1) := by decide +kernel
theorem dL_vertices_3 : decode cL_vertices 3 = .ok (.iload_n 1, 1) := by decide +kernel
theorem dL_vertices_4 : decode cL_vertices 4 = .ok (.invokevirtual 9, 3) := by decide +kernel
theorem dL_vertices_7 : decode cL_vertices 7 = .ok (.ifCond .lt 9, 3) := by decide +kernel
theorem dL_vertices_10 : decode cL_vertices 10 = .ok (.iinc 1 1, 3) := by decide +kernel
theorem dL_vertices_13 : decode cL_vertices 13 = .ok (.goto (-11), 3) := by decide +kernel
theorem dL_vertices_16 : decode cL_vertices 16 = .ok (.iload_n 1, 1) := by decide +kernel
theorem dL_vertices_17 : decode cL_vertices 17 = .ok (.ireturn, 1) := by decide +kernel
theorem dL_errors_0 : decode cL_errors 0 = .ok (.aload_n 0, 1) := by decide +kernel
theorem dL_errors_1 : decode cL_errors 1 = .ok (.invokestatic 15, 3) := by decide +kernel
theorem dL_errors_4 : decode cL_errors 4 = .ok (.istore_n 1, 1) := by decide +kernel
theorem dL_errors_5 : decode cL_errors 5 = .ok (.aload_n 0, 1) := by decide +kernel
theorem dL_errors_6 : decode cL_errors 6 = .ok (.sipush 256, 3) := by decide +kernel
theorem dL_errors_9 : decode cL_errors 9 = .ok (.invokevirtual 21, 3) := by decide +kernel
theorem dL_errors_12 : decode cL_errors 12 = .ok (.bipush (-2), 2) := by decide +kernel
theorem dL_errors_14 : decode cL_errors 14 = .ok (.if_icmp .ne 362, 3) := by decide +kernel
theorem dL_errors_17 : decode cL_errors 17 = .ok (.aload_n 0, 1) := by decide +kernel
theorem dL_errors_18 : decode cL_errors 18 = .ok (.iconst (-1), 1) := by decide +kernel
theorem dL_errors_19 : decode cL_errors 19 = .ok (.invokevirtual 21, 3) := by decide +kernel
theorem dL_errors_22 : decode cL_errors 22 = .ok (.bipush (-2), 2) := by decide +kernel
theorem dL_errors_24 : decode cL_errors 24 = .ok (.if_icmp .ne 352, 3) := by decide +kernel
theorem dL_errors_27 : decode cL_errors 27 = .ok (.aload_n 0, 1) := by decide +kernel
theorem dL_errors_28 : decode cL_errors 28 = .ok (.iconst (-1), 1) := by decide +kernel
theorem dL_errors_29 : decode cL_errors 29 = .ok (.invokevirtual 9, 3) := by decide +kernel
theorem dL_errors_32 : decode cL_errors 32 = .ok (.iconst (-1), 1) := by decide +kernel
theorem dL_errors_33 : decode cL_errors 33 = .ok (.if_icmp .ne 343, 3) := by decide +kernel
theorem dL_errors_36 : decode cL_errors 36 = .ok (.aload_n 0, 1) := by decide +kernel
theorem dL_errors_37 : decode cL_errors 37 = .ok (.iload_n 1, 1) := by decide +kernel
theorem dL_errors_38 : decode cL_errors 38 = .ok (.iconst 0, 1) := by decide +kernel
theorem dL_errors_39 : decode cL_errors 39 = .ok (.invokevirtual 24, 3) := by decide +kernel
theorem dL_errors_42 : decode cL_errors 42 = .ok (.iconst (-1), 1) := by decide +kernel
theorem dL_errors_43 : decode cL_errors 43 = .ok (.if_icmp .ne 333, 3) := by decide +kernel
theorem dL_errors_46 : decode cL_errors 46 = .ok (.aload_n 0, 1) := by decide +kernel
theorem dL_errors_47 : decode cL_errors 47 = .ok (.iconst 0, 1) := by decide +kernel
theorem dL_errors_48 : decode cL_errors 48 = .ok (.iconst (-1), 1) := by decide +kernel
theorem dL_errors_49 : decode cL_errors 49 = .ok (.invokevirtual 24, 3) := by decide +kernel
theorem dL_errors_52 : decode cL_errors 52 = .ok (.iconst (-1), 1) := by decide +kernel
theorem dL_errors_53 : decode cL_errors 53 = .ok (.if_icmp .ne 323, 3) := by decide +kernel
theorem dL_errors_56 : decode cL_errors 56 = .ok (.aload_n 0, 1) := by decide +kernel
theorem dL_errors_57 : decode cL_errors 57 = .ok (.iconst 0, 1) := by decide +kernel
theorem dL_errors_58 : decode cL_errors 58 = .ok (.iconst 0, 1) := by decide +kernel
theorem dL_errors_59 : decode cL_errors 59 = .ok (.invokevirtual 24, 3) := by decide +kernel
theorem dL_errors_62 : decode cL_errors 62 = .ok (.bipush (-9), 2) := by decide +kernel
theorem dL_errors_64 : decode cL_errors 64 = .ok (.if_icmp .ne 312, 3) := by decide +kernel
theorem dL_errors_67 : decode cL_errors 67 = .ok (.aload_n 0, 1) := by decide +kernel
theorem dL_errors_68 : decode cL_errors 68 = .ok (.iload_n 1, 1) := by decide +kernel
theorem dL_errors_69 : decode cL_errors 69 = .ok (.invokevirtual 28, 3) := by decide +kernel
theorem dL_errors_72 : decode cL_errors 72 = .ok (.iconst (-1), 1) := by decide +kernel
theorem dL_errors_73 : decode cL_errors 73 = .ok (.if_icmp .ne 303, 3) := by decide +kernel
theorem dL_errors_76 : decode cL_errors 76 = .ok (.aload_n 0, 1) := by decide +kernel
theorem dL_errors_77 : decode cL_errors 77 = .ok (.iload_n 1, 1) := by decide +kernel
theorem dL_errors_78 : decode cL_errors 78 = .ok (.iconst 0, 1) := by decide +kernel
theorem dL_errors_79 : decode cL_errors 79 = .ok (.iconst 0, 1) := by decide +kernel
theorem dL_errors_80 : decode cL_errors 80 = .ok (.invokevirtual 31, 3) := by decide +kernel
theorem dL_errors_83 : decode cL_errors 83 = .ok (.iconst (-1), 1) := by decide +kernel
theorem dL_errors_84 : decode cL_errors 84 = .ok (.if_icmp .ne 292, 3) := by decide +kernel
theorem dL_errors_87 : decode cL_errors 87 = .ok (.aload_n 0, 1) := by decide +kernel
theorem dL_errors_88 : decode cL_errors 88 = .ok (.iconst 0, 1) := by decide +kernel
theorem dL_errors_89 : decode cL_errors 89 = .ok (.iconst 0, 1) := by decide +kernel
theorem dL_errors_90 : decode cL_errors 90 = .ok (.iconst 0, 1) := by decide +kernel
theorem dL_errors_91 : decode cL_errors 91 = .ok (.invokevirtual 31, 3) := by decide +kernel
theorem dL_errors_94 : decode cL_errors 94 = .ok (.bipush (-2), 2) := by decide +kernel
theorem dL_errors_96 : decode cL_errors 96 = .ok (.if_icmp .ne 280, 3) := by decide +kernel
theorem dL_errors_99 : decode cL_errors 99 = .ok (.aload_n 0, 1) := by decide +kernel
theorem dL_errors_100 : decode cL_errors 100 = .ok (.iconst 0, 1) := by decide +kernel
theorem dL_errors_101 : decode cL_errors 101 = .ok (.iconst 0, 1) := by decide +kernel
theorem dL_errors_102 : decode cL_errors 102 = .ok (.bipush 100, 2) := by decide +kernel
theorem dL_errors_104 : decode cL_errors 104 = .ok (.invokevirtual 31, 3) := by decide +kernel
theorem dL_errors_107 : decode cL_errors 107 = .ok (.bipush (-2), 2) := by decide +kernel
theorem dL_errors_109 : decode cL_errors 109 = .ok (.if_icmp .ne 267, 3) := by decide +kernel
theorem dL_errors_112 : decode cL_errors 112 = .ok (.aload_n 0, 1) := by decide +kernel
theorem dL_errors_113 : decode cL_errors 113 = .ok (.iconst 0, 1) := by decide +kernel
theorem dL_errors_114 : decode cL_errors 114 = .ok (.iconst 0, 1) := by decide +kernel
theorem dL_errors_115 : decode cL_errors 115 = .ok (.iconst 1, 1) := by decide +kernel
theorem dL_errors_116 : decode cL_errors 116 = .ok (.invokevirtual 31, 3) := by decide +kernel
theorem dL_errors_119 : decode cL_errors 119 = .ok (.bipush (-3), 2) := by decide +kernel
theorem dL_errors_121 : decode cL_errors 121 = .ok (.if_icmp .ne 255, 3) := by decide +kernel
theorem dL_errors_124 : decode cL_errors 124 = .ok (.aload_n 0, 1) := by decide +kernel
theorem dL_errors_125 : decode cL_errors 125 = .ok (.iconst 0, 1) := by decide +kernel
theorem dL_errors_126 : decode cL_errors 126 = .ok (.iload_n 1, 1) := by decide +kernel
theorem dL_errors_127 : decode cL_errors 127 = .ok (.invokevirtual 35, 3) := by decide +kernel
theorem dL_errors_130 : decode cL_errors 130 = .ok (.iconst (-1), 1) := by decide +kernel
theorem dL_errors_131 : decode cL_errors 131 = .ok (.if_icmp .ne 245, 3) := by decide +kernel
theorem dL_errors_134 : decode cL_errors 134 = .ok (.aload_n 0, 1) := by decide +kernel
theorem dL_errors_135 : decode cL_errors 135 = .ok (.iconst 0, 1) := by decide +kernel
theorem dL_errors_136 : decode cL_errors 136 = .ok (.iconst 0, 1) := by decide +kernel
theorem dL_errors_137 : decode cL_errors 137 = .ok (.invokevirtual 35, 3) := by decide +kernel
theorem dL_errors_140 : decode cL_errors 140 = .ok (.bipush (-3), 2) := by decide +kernel
theorem dL_errors_142 : decode cL_errors 142 = .ok (.if_icmp .ne 234, 3) := by decide +kernel
theorem dL_errors_145 : decode cL_errors 145 = .ok (.aload_n 0, 1) := by decide +kernel
theorem dL_errors_146 : decode cL_errors 146 = .ok (.iload_n 1, 1) := by decide +kernel
theorem dL_errors_147 : decode cL_errors 147 = .ok (.iconst 0, 1) := by decide +kernel
theorem dL_errors_148 : decode cL_errors 148 = .ok (.iconst 0, 1) := by decide +kernel
theorem dL_errors_149 : decode cL_errors 149 = .ok (.invokevirtual 38, 3) := by decide +kernel
theorem dL_errors_152 : decode cL_errors 152 = .ok (.iconst (-1), 1) := by decide +kernel
theorem dL_errors_153 : decode cL_errors 153 = .ok (.if_icmp .ne 223, 3) := by decide +kernel
theorem dL_errors_156 : decode cL_errors 156 = .ok (.aload_n 0, 1) := by decide +kernel
theorem dL_errors_157 : decode cL_errors 157 = .ok (.iconst 0, 1) := by decide +kernel
theorem dL_errors_158 : decode cL_errors 158 = .ok (.iconst 0, 1) := by decide +kernel
theorem dL_errors_159 : decode cL_errors 159 = .ok (.iconst 0, 1) := by decide +kernel
theorem dL_errors_160 : decode cL_errors 160 = .ok (.invokevirtual 38, 3) := by decide +kernel
theorem dL_errors_163 : decode cL_errors 163 = .ok (.bipush (-2), 2) := by decide +kernel
theorem dL_errors_165 : decode cL_errors 165 = .ok (.if_icmp .ne 211, 3) := by decide +kernel
theorem dL_errors_168 : decode cL_errors 168 = .ok (.aload_n 0, 1) := by decide +kernel
theorem dL_errors_169 : decode cL_errors 169 = .ok (.iconst 0, 1) := by decide +kernel
theorem dL_errors_170 : decode cL_errors 170 = .ok (.iconst 0, 1) := by decide +kernel
theorem dL_errors_171 : decode cL_errors 171 = .ok (.iconst 1, 1) := by decide +kernel
theorem dL_errors_172 : decode cL_errors 172 = .ok (.invokevirtual 38, 3) := by decide +kernel
theorem dL_errors_175 : decode cL_errors 175 = .ok (.bipush (-3), 2) := by decide +kernel
theorem dL_errors_177 : decode cL_errors 177 = .ok (.if_icmp .ne 199, 3) := by decide +kernel
theorem dL_errors_180 : decode cL_errors 180 = .ok (.aload_n 0, 1) := by decide +kernel
theorem dL_errors_181 : decode cL_errors 181 = .ok (.iload_n 1, 1) := by decide +kernel
theorem dL_errors_182 : decode cL_errors 182 = .ok (.bipush 100, 2) := by decide +kernel
theorem dL_errors_184 : decode cL_errors 184 = .ok (.invokevirtual 41, 3) := by decide +kernel
theorem dL_errors_187 : decode cL_errors 187 = .ok (.iconst (-1), 1) := by decide +kernel
theorem dL_errors_188 : decode cL_errors 188 = .ok (.if_icmp .ne 188, 3) := by decide +kernel
theorem dL_errors_191 : decode cL_errors 191 = .ok (.aload_n 0, 1) := by decide +kernel
theorem dL_errors_192 : decode cL_errors 192 = .ok (.iconst 0, 1) := by decide +kernel
theorem dL_errors_193 : decode cL_errors 193 = .ok (.bipush 100, 2) := by decide +kernel
theorem dL_errors_195 : decode cL_errors 195 = .ok (.invokevirtual 41, 3) := by decide +kernel
theorem dL_errors_198 : decode cL_errors 198 = .ok (.bipush (-2), 2) := by decide +kernel
theorem dL_errors_200 : decode cL_errors 200 = .ok (.if_icmp .ne 176, 3) := by decide +kernel
theorem dL_errors_203 : decode cL_errors 203 = .ok (.aload_n 0, 1) := by decide +kernel
theorem dL_errors_204 : decode cL_errors 204 = .ok (.iconst 0, 1) := by decide +kernel
theorem dL_errors_205 : decode cL_errors 205 = .ok (.iconst (-1), 1) := by decide +kernel
theorem dL_errors_206 : decode cL_errors 206 = .ok (.invokevirtual 41, 3) := by decide +kernel
theorem dL_errors_209 : decode cL_errors 209 = .ok (.bipush (-2), 2) := by decide +kernel
theorem dL_errors_211 : decode cL_errors 211 = .ok (.if_icmp .ne 165, 3) := by decide +kernel
theorem dL_errors_214 : decode cL_errors 214 = .ok (.aload_n 0, 1) := by decide +kernel
theorem dL_errors_215 : decode cL_errors 215 = .ok (.iconst 0, 1) := by decide +kernel
theorem dL_errors_216 : decode cL_errors 216 = .ok (.iload_n 1, 1) := by decide +kernel
theorem dL_errors_217 : decode cL_errors 217 = .ok (.invokevirtual 44, 3) := by decide +kernel
theorem dL_errors_220 : decode cL_errors 220 = .ok (.iconst (-1), 1) := by decide +kernel
theorem dL_errors_221 : decode cL_errors 221 = .ok (.if_icmp .ne 155, 3) := by decide +kernel
theorem dL_errors_224 : decode cL_errors 224 = .ok (.aload_n 0, 1) := by decide +kernel
theorem dL_errors_225 : decode cL_errors 225 = .ok (.iload_n 1, 1) := by decide +kernel
theorem dL_errors_226 : decode cL_errors 226 = .ok (.iconst 0, 1) := by decide +kernel
theorem dL_errors_227 : decode cL_errors 227 = .ok (.iconst (-1), 1) := by decide +kernel
theorem dL_errors_228 : decode cL_errors 228 = .ok (.invokevirtual 47, 3) := by decide +kernel
theorem dL_errors_231 : decode cL_errors 231 = .ok (.iconst (-1), 1) := by decide +kernel
theorem dL_errors_232 : decode cL_errors 232 = .ok (.if_icmp .ne 144, 3) := by decide +kernel
theorem dL_errors_235 : decode cL_errors 235 = .ok (.aload_n 0, 1) := by decide +kernel
theorem dL_errors_236 : decode cL_errors 236 = .ok (.iconst 0, 1) := by decide +kernel
theorem dL_errors_237 : decode cL_errors 237 = .ok (.iconst 0, 1) := by decide +kernel
theorem dL_errors_238 : decode cL_errors 238 = .ok (.iconst (-1), 1) := by decide +kernel
theorem dL_errors_239 : decode cL_errors 239 = .ok (.invokevirtual 47, 3) := by decide +kernel
theorem dL_errors_242 : decode cL_errors 242 = .ok (.bipush (-2), 2) := by decide +kernel
theorem dL_errors_244 : decode cL_errors 244 = .ok (.if_icmp .ne 132, 3) := by decide +kernel
theorem dL_errors_247 : decode cL_errors 247 = .ok (.aload_n 0, 1) := by decide +kernel
theorem dL_errors_248 : decode cL_errors 248 = .ok (.iconst 0, 1) := by decide +kernel
theorem dL_errors_249 : decode cL_errors 249 = .ok (.iconst 0, 1) := by decide +kernel
theorem dL_errors_250 : decode cL_errors 250 = .ok (.iconst 1, 1) := by decide +kernel
theorem dL_errors_251 : decode cL_errors 251 = .ok (.invokevirtual 47, 3) := by decide +kernel
theorem dL_errors_254 : decode cL_errors 254 = .ok (.bipush (-9), 2) := by decide +kernel
theorem dL_errors_256 : decode cL_errors 256 = .ok (.if_icmp .ne 120, 3) := by decide +kernel
theorem dL_errors_259 : decode cL_errors 259 = .ok (.aload_n 0, 1) := by decide +kernel
theorem dL_errors_260 : decode cL_errors 260 = .ok (.iload_n 1, 1) := by decide +kernel
theorem dL_errors_261 : decode cL_errors 261 = .ok (.invokevirtual 50, 3) := by decide +kernel
theorem dL_errors_264 : decode cL_errors 264 = .ok (.iconst (-1), 1) := by decide +kernel
theorem dL_errors_265 : decode cL_errors 265 = .ok (.if_icmp .ne 111, 3) := by decide +kernel
theorem dL_errors_268 : decode cL_errors 268 = .ok (.aload_n 0, 1) := by decide +kernel
theorem dL_errors_269 : decode cL_errors 269 = .ok (.iconst (-1), 1) := by decide +kernel
theorem dL_errors_270 : decode cL_errors 270 = .ok (.invokevirtual 53, 3) := by decide +kernel
theorem dL_errors_273 : decode cL_errors 273 = .ok (.iconst (-1), 1) := by decide +kernel
theorem dL_errors_274 : decode cL_errors 274 = .ok (.if_icmp .ne 102, 3) := by decide +kernel
theorem dL_errors_277 : decode cL_errors 277 = .ok (.aload_n 0, 1) := by decide +kernel
theorem dL_errors_278 : decode cL_errors 278 = .ok (.iload_n 1, 1) := by decide +kernel
theorem dL_errors_279 : decode cL_errors 279 = .ok (.iconst 2, 1) := by decide +kernel
theorem dL_errors_280 : decode cL_errors 280 = .ok (.invokevirtual 56, 3) := by decide +kernel
theorem dL_errors_283 : decode cL_errors 283 = .ok (.iconst (-1), 1) := by decide +kernel
theorem dL_errors_284 : decode cL_errors 284 = .ok (.if_icmp .ne 92, 3) := by decide +kernel
theorem dL_errors_287 : decode cL_errors 287 = .ok (.aload_n 0, 1) := by decide +kernel
theorem dL_errors_288 : decode cL_errors 288 = .ok (.iconst 0, 1) := by decide +kernel
theorem dL_errors_289 : decode cL_errors 289 = .ok (.iconst 2, 1) := by decide +kernel
theorem dL_errors_290 : decode cL_errors 290 = .ok (.invokevirtual 56, 3) := by decide +kernel
theorem dL_errors_293 : decode cL_errors 293 = .ok (.bipush (-2), 2) := by decide +kernel
theorem dL_errors_295 : decode cL_errors 295 = .ok (.if_icmp .ne 81, 3) := by decide +kernel
theorem dL_errors_298 : decode cL_errors 298 = .ok (.aload_n 0, 1) := by decide +kernel
theorem dL_errors_299 : decode cL_errors 299 = .ok (.iload_n 1, 1) := by decide +kernel
theorem dL_errors_300 : decode cL_errors 300 = .ok (.invokevirtual 59, 3) := by decide +kernel
theorem dL_errors_303 : decode cL_errors 303 = .ok (.iconst (-1), 1) := by decide +kernel
theorem dL_errors_304 : decode cL_errors 304 = .ok (.if_icmp .ne 72, 3) := by decide +kernel
theorem dL_errors_307 : decode cL_errors 307 = .ok (.aload_n 0, 1) := by decide +kernel
theorem dL_errors_308 : decode cL_errors 308 = .ok (.iload_n 1, 1) := by decide +kernel
theorem dL_errors_309 : decode cL_errors 309 = .ok (.invokevirtual 62, 3) := by decide +kernel
theorem dL_errors_312 : decode cL_errors 312 = .ok (.iconst (-1), 1) := by decide +kernel
theorem dL_errors_313 : decode cL_errors 313 = .ok (.if_icmp .ne 63, 3) := by decide +kernel
theorem dL_errors_316 : decode cL_errors 316 = .ok (.aload_n 0, 1) := by decide +kernel
theorem dL_errors_317 : decode cL_errors 317 = .ok (.iload_n 1, 1) := by decide +kernel
theorem dL_errors_318 : decode cL_errors 318 = .ok (.invokevirtual 65, 3) := by decide +kernel
theorem dL_errors_321 : decode cL_errors 321 = .ok (.iconst (-1), 1) := by decide +kernel
theorem dL_errors_322 : decode cL_errors 322 = .ok (.if_icmp .ne 54, 3) := by decide +kernel
theorem dL_errors_325 : decode cL_errors 325 = .ok (.aload_n 0, 1) := by decide +kernel
theorem dL_errors_326 : decode cL_errors 326 = .ok (.iconst 0, 1) := by decide +kernel
theorem dL_errors_327 : decode cL_errors 327 = .ok (.iconst 0, 1) := by decide +kernel
theorem dL_errors_328 : decode cL_errors 328 = .ok (.iload_n 1, 1) := by decide +kernel
theorem dL_errors_329 : decode cL_errors 329 = .ok (.invokevirtual 68, 3) := by decide +kernel
theorem dL_errors_332 : decode cL_errors 332 = .ok (.iconst (-1), 1) := by decide +kernel
theorem dL_errors_333 : decode cL_errors 333 = .ok (.if_icmp .ne 43, 3) := by decide +kernel
theorem dL_errors_336 : decode cL_errors 336 = .ok (.aload_n 0, 1) := by decide +kernel
theorem dL_errors_337 : decode cL_errors 337 = .ok (.iload_n 1, 1) := by decide +kernel
theorem dL_errors_338 : decode cL_errors 338 = .ok (.invokevirtual 71, 3) := by decide +kernel
theorem dL_errors_341 : decode cL_errors 341 = .ok (.iconst (-1), 1) := by decide +kernel
theorem dL_errors_342 : decode cL_errors 342 = .ok (.if_icmp .ne 34, 3) := by decide +kernel
theorem dL_errors_345 : decode cL_errors 345 = .ok (.aload_n 0, 1) := by decide +kernel
theorem dL_errors_346 : decode cL_errors 346 = .ok (.iload_n 1, 1) := by decide +kernel
theorem dL_errors_347 : decode cL_errors 347 = .ok (.invokevirtual 74, 3) := by decide +kernel
theorem dL_errors_350 : decode cL_errors 350 = .ok (.iconst (-1), 1) := by decide +kernel
theorem dL_errors_351 : decode cL_errors 351 = .ok (.if_icmp .ne 25, 3) := by decide +kernel
theorem dL_errors_354 : decode cL_errors 354 = .ok (.aload_n 0, 1) := by decide +kernel
theorem dL_errors_355 : decode cL_errors 355 = .ok (.iload_n 1, 1) := by decide +kernel
theorem dL_errors_356 : decode cL_errors 356 = .ok (.invokevirtual 77, 3) := by decide +kernel
theorem dL_errors_359 : decode cL_errors 359 = .ok (.iconst (-1), 1) := by decide +kernel
theorem dL_errors_360 : decode cL_errors 360 = .ok (.if_icmp .ne 16, 3) := by decide +kernel
theorem dL_errors_363 : decode cL_errors 363 = .ok (.aload_n 0, 1) := by decide +kernel
theorem dL_errors_364 : decode cL_errors 364 = .ok (.iload_n 1, 1) := by decide +kernel
theorem dL_errors_365 : decode cL_errors 365 = .ok (.invokevirtual 80, 3) := by decide +kernel
theorem dL_errors_368 : decode cL_errors 368 = .ok (.iconst (-1), 1) := by decide +kernel
theorem dL_errors_369 : decode cL_errors 369 = .ok (.if_icmp .ne 7, 3) := by decide +kernel
theorem dL_errors_372 : decode cL_errors 372 = .ok (.iconst 1, 1) := by decide +kernel
theorem dL_errors_373 : decode cL_errors 373 = .ok (.goto 4, 3) := by decide +kernel
theorem dL_errors_376 : decode cL_errors 376 = .ok (.iconst 0, 1) := by decide +kernel
theorem dL_errors_377 : decode cL_errors 377 = .ok (.istore_n 2, 1) := by decide +kernel
theorem dL_errors_378 : decode cL_errors 378 = .ok (.iload_n 2, 1) := by decide +kernel
theorem dL_errors_379 : decode cL_errors 379 = .ok (.ifCond .eq 197, 3) := by decide +kernel
theorem dL_errors_382 : decode cL_errors 382 = .ok (.aload_n 0, 1) := by decide +kernel
theorem dL_errors_383 : decode cL_errors 383 = .ok (.iload_n 1, 1) := by decide +kernel
theorem dL_errors_384 : decode cL_errors 384 = .ok (.bipush 11, 2) := by decide +kernel
theorem dL_errors_386 : decode cL_errors 386 = .ok (.invokevirtual 83, 3) := by decide +kernel
theorem dL_errors_389 : decode cL_errors 389 = .ok (.ldc2_w 87, 3) := by decide +kernel
theorem dL_errors_392 : decode cL_errors 392 = .ok (.lcmp, 1) := by decide +kernel
theorem dL_errors_393 : decode cL_errors 393 = .ok (.ifCond .ne 183, 3) := by decide +kernel
theorem dL_errors_396 : decode cL_errors 396 = .ok (.aload_n 0, 1) := by decide +kernel
theorem dL_errors_397 : decode cL_errors 397 = .ok (.iconst 0, 1) := by decide +kernel
theorem dL_errors_398 : decode cL_errors 398 = .ok (.bipush 11, 2) := by decide +kernel
theorem dL_errors_400 : decode cL_errors 400 = .ok (.invokevirtual 83, 3) := by decide +kernel
theorem dL_errors_403 : decode cL_errors 403 = .ok (.ldc2_w 89, 3) := by decide +kernel
theorem dL_errors_406 : decode cL_errors 406 = .ok (.lcmp, 1) := by decide +kernel
theorem dL_errors_407 : decode cL_errors 407 = .ok (.ifCond .ne 169, 3) := by decide +kernel
theorem dL_errors_410 : decode cL_errors 410 = .ok (.aload_n 0, 1) := by decide +kernel
theorem dL_errors_411 : decode cL_errors 411 = .ok (.iconst 0, 1) := by decide +kernel
theorem dL_errors_412 : decode cL_errors 412 = .ok (.iconst (-1), 1) := by decide +kernel
theorem dL_errors_413 : decode cL_errors 413 = .ok (.invokevirtual 83, 3) := by decide +kernel
theorem dL_errors_416 : decode cL_errors 416 = .ok (.ldc2_w 89, 3) := by decide +kernel
theorem dL_errors_419 : decode cL_errors 419 = .ok (.lcmp, 1) := by decide +kernel
theorem dL_errors_420 : decode cL_errors 420 = .ok (.ifCond .ne 156, 3) := by decide +kernel
theorem dL_errors_423 : decode cL_errors 423 = .ok (.aload_n 0, 1) := by decide +kernel
theorem dL_errors_424 : decode cL_errors 424 = .ok (.bipush 12, 2) := by decide +kernel
theorem dL_errors_426 : decode cL_errors 426 = .ok (.iconst 0, 1) := by decide +kernel
theorem dL_errors_427 : decode cL_errors 427 = .ok (.iconst 0, 1) := by decide +kernel
theorem dL_errors_428 : decode cL_errors 428 = .ok (.invokevirtual 91, 3) := by decide +kernel
theorem dL_errors_431 : decode cL_errors 431 = .ok (.bipush (-2), 2) := by decide +kernel
theorem dL_errors_433 : decode cL_errors 433 = .ok (.if_icmp .ne 143, 3) := by decide +kernel
theorem dL_errors_436 : decode cL_errors 436 = .ok (.aload_n 0, 1) := by decide +kernel
theorem dL_errors_437 : decode cL_errors 437 = .ok (.iconst 0, 1) := by decide +kernel
theorem dL_errors_438 : decode cL_errors 438 = .ok (.iconst (-1), 1) := by decide +kernel
theorem dL_errors_439 : decode cL_errors 439 = .ok (.iconst 0, 1) := by decide +kernel
theorem dL_errors_440 : decode cL_errors 440 = .ok (.invokevirtual 91, 3) := by decide +kernel
theorem dL_errors_443 : decode cL_errors 443 = .ok (.bipush (-2), 2) := by decide +kernel
theorem dL_errors_445 : decode cL_errors 445 = .ok (.if_icmp .ne 131, 3) := by decide +kernel
theorem dL_errors_448 : decode cL_errors 448 = .ok (.aload_n 0, 1) := by decide +kernel
theorem dL_errors_449 : decode cL_errors 449 = .ok (.iconst 0, 1) := by decide +kernel
theorem dL_errors_450 : decode cL_errors 450 = .ok (.iconst 0, 1) := by decide +kernel
theorem dL_errors_451 : decode cL_errors 451 = .ok (.sipush 1000, 3) := by decide +kernel
theorem dL_errors_454 : decode cL_errors 454 = .ok (.invokevirtual 91, 3) := by decide +kernel
theorem dL_errors_457 : decode cL_errors 457 = .ok (.bipush (-2), 2) := by decide +kernel
theorem dL_errors_459 : decode cL_errors 459 = .ok (.if_icmp .ne 117, 3) := by decide +kernel
theorem dL_errors_462 : decode cL_errors 462 = .ok (.aload_n 0, 1) := by decide +kernel
theorem dL_errors_463 : decode cL_errors 463 = .ok (.iload_n 1, 1) := by decide +kernel
theorem dL_errors_464 : decode cL_errors 464 = .ok (.iconst 0, 1) := by decide +kernel
theorem dL_errors_465 : decode cL_errors 465 = .ok (.invokevirtual 94, 3) := by decide +kernel
theorem dL_errors_468 : decode cL_errors 468 = .ok (.iconst (-1), 1) := by decide +kernel
theorem dL_errors_469 : decode cL_errors 469 = .ok (.if_icmp .ne 107, 3) := by decide +kernel
theorem dL_errors_472 : decode cL_errors 472 = .ok (.aload_n 0, 1) := by decide +kernel
theorem dL_errors_473 : decode cL_errors 473 = .ok (.iconst 0, 1) := by decide +kernel
theorem dL_errors_474 : decode cL_errors 474 = .ok (.iconst 0, 1) := by decide +kernel
theorem dL_errors_475 : decode cL_errors 475 = .ok (.invokevirtual 94, 3) := by decide +kernel
theorem dL_errors_478 : decode cL_errors 478 = .ok (.bipush (-3), 2) := by decide +kernel
theorem dL_errors_480 : decode cL_errors 480 = .ok (.if_icmp .ne 96, 3) := by decide +kernel
theorem dL_errors_483 : decode cL_errors 483 = .ok (.aload_n 0, 1) := by decide +kernel
theorem dL_errors_484 : decode cL_errors 484 = .ok (.iconst 0, 1) := by decide +kernel
theorem dL_errors_485 : decode cL_errors 485 = .ok (.lconst 0, 1) := by decide +kernel
theorem dL_errors_486 : decode cL_errors 486 = .ok (.invokevirtual 97, 3) := by decide +kernel
theorem dL_errors_489 : decode cL_errors 489 = .ok (.bipush (-2), 2) := by decide +kernel
theorem dL_errors_491 : decode cL_errors 491 = .ok (.if_icmp .ne 85, 3) := by decide +kernel
theorem dL_errors_494 : decode cL_errors 494 = .ok (.aload_n 0, 1) := by decide +kernel
theorem dL_errors_495 : decode cL_errors 495 = .ok (.iconst 4, 1) := by decide +kernel
theorem dL_errors_496 : decode cL_errors 496 = .ok (.lconst 0, 1) := by decide +kernel
theorem dL_errors_497 : decode cL_errors 497 = .ok (.invokevirtual 97, 3) := by decide +kernel
theorem dL_errors_500 : decode cL_errors 500 = .ok (.bipush (-2), 2) := by decide +kernel
theorem dL_errors_502 : decode cL_errors 502 = .ok (.if_icmp .ne 74, 3) := by decide +kernel
theorem dL_errors_505 : decode cL_errors 505 = .ok (.aload_n 0, 1) := by decide +kernel
theorem dL_errors_506 : decode cL_errors 506 = .ok (.iconst 1, 1) := by decide +kernel
theorem dL_errors_507 : decode cL_errors 507 = .ok (.ldc2_w 101, 3) := by decide +kernel
theorem dL_errors_510 : decode cL_errors 510 = .ok (.invokevirtual 97, 3) := by decide +kernel
theorem dL_errors_513 : decode cL_errors 513 = .ok (.bipush (-2), 2) := by decide +kernel
theorem dL_errors_515 : decode cL_errors 515 = .ok (.if_icmp .ne 61, 3) := by decide +kernel
theorem dL_errors_518 : decode cL_errors 518 = .ok (.aload_n 0, 1) := by decide +kernel
theorem dL_errors_519 : decode cL_errors 519 = .ok (.iconst 1, 1) := by decide +kernel
theorem dL_errors_520 : decode cL_errors 520 = .ok (.ldc2_w 87, 3) := by decide +kernel
theorem dL_errors_523 : decode cL_errors 523 = .ok (.invokevirtual 97, 3) := by decide +kernel
theorem dL_errors_526 : decode cL_errors 526 = .ok (.bipush (-2), 2) := by decide +kernel
theorem dL_errors_528 : decode cL_errors 528 = .ok (.if_icmp .ne 48, 3) := by decide +kernel
theorem dL_errors_531 : decode cL_errors 531 = .ok (.aload_n 0, 1) := by decide +kernel
theorem dL_errors_532 : decode cL_errors 532 = .ok (.lconst 1, 1) := by decide +kernel
theorem dL_errors_533 : decode cL_errors 533 = .ok (.iconst 0, 1) := by decide +kernel
theorem dL_errors_534 : decode cL_errors 534 = .ok (.invokevirtual 103, 3) := by decide +kernel
theorem dL_errors_537 : decode cL_errors 537 = .ok (.bipush (-2), 2) := by decide +kernel
theorem dL_errors_539 : decode cL_errors 539 = .ok (.if_icmp .ne 37, 3) := by decide +kernel
theorem dL_errors_542 : decode cL_errors 542 = .ok (.aload_n 0, 1) := by decide +kernel
theorem dL_errors_543 : decode cL_errors 543 = .ok (.lconst 1, 1) := by decide +kernel
theorem dL_errors_544 : decode cL_errors 544 = .ok (.bipush 61, 2) := by decide +kernel
theorem dL_errors_546 : decode cL_errors 546 = .ok (.invokevirtual 103, 3) := by decide +kernel
theorem dL_errors_549 : decode cL_errors 549 = .ok (.bipush (-2), 2) := by decide +kernel
theorem dL_errors_551 : decode cL_errors 551 = .ok (.if_icmp .ne 25, 3) := by decide +kernel
theorem dL_errors_554 : decode cL_errors 554 = .ok (.aload_n 0, 1) := by decide +kernel
theorem dL_errors_555 : decode cL_errors 555 = .ok (.iconst 2, 1) := by decide +kernel
theorem dL_errors_556 : decode cL_errors 556 = .ok (.invokevirtual 107, 3) := by decide +kernel
theorem dL_errors_559 : decode cL_errors 559 = .ok (.iconst (-1), 1) := by decide +kernel
theorem dL_errors_560 : decode cL_errors 560 = .ok (.if_icmp .ne 16, 3) := by decide +kernel
theorem dL_errors_563 : decode cL_errors 563 = .ok (.aload_n 0, 1) := by decide +kernel
theorem dL_errors_564 : decode cL_errors 564 = .ok (.iconst (-1), 1) := by decide +kernel
theorem dL_errors_565 : decode cL_errors 565 = .ok (.invokevirtual 110, 3) := by decide +kernel
theorem dL_errors_568 : decode cL_errors 568 = .ok (.iconst (-1), 1) := by decide +kernel
theorem dL_errors_569 : decode cL_errors 569 = .ok (.if_icmp .ne 7, 3) := by decide +kernel
theorem dL_errors_572 : decode cL_errors 572 = .ok (.iconst 1, 1) := by decide +kernel
theorem dL_errors_573 : decode cL_errors 573 = .ok (.goto 4, 3) := by decide +kernel
theorem dL_errors_576 : decode cL_errors 576 = .ok (.iconst 0, 1) := by decide +kernel
theorem dL_errors_577 : decode cL_errors 577 = .ok (.ireturn, 1) := by decide +kernel
theorem dL_two_0 : decode cL_two 0 = .ok (.aload_n 0, 1) := by decide +kernel
theorem dL_two_1 : decode cL_two 1 = .ok (.bipush 48, 2) := by decide +kernel
theorem dL_two_3 : decode cL_two 3 = .ok (.iload_n 1, 1) := by decide +kernel
theorem dL_two_4 : decode cL_two 4 = .ok (.bipush 10, 2) := by decide +kernel
theorem dL_two_6 : decode cL_two 6 = .ok (.idiv, 1) := by decide +kernel
theorem dL_two_7 : decode cL_two 7 = .ok (.iadd, 1) := by decide +kernel
theorem dL_two_8 : decode cL_two 8 = .ok (.invokevirtual 21, 3) := by decide +kernel
theorem dL_two_11 : decode cL_two 11 = .ok (.aload_n 0, 1) := by decide +kernel
theorem dL_two_12 : decode cL_two 12 = .ok (.bipush 48, 2) := by decide +kernel
theorem dL_two_14 : decode cL_two 14 = .ok (.iload_n 1, 1) := by decide +kernel
theorem dL_two_15 : decode cL_two 15 = .ok (.bipush 10, 2) := by decide +kernel
theorem dL_two_17 : decode cL_two 17 = .ok (.irem, 1) := by decide +kernel
theorem dL_two_18 : decode cL_two 18 = .ok (.iadd, 1) := by decide +kernel
theorem dL_two_19 : decode cL_two 19 = .ok (.invokevirtual 21, 3) := by decide +kernel
theorem dL_two_22 : decode cL_two 22 = .ok (.iadd, 1) := by decide +kernel
theorem dL_two_23 : decode cL_two 23 = .ok (.ireturn, 1) := by decide +kernel
theorem dL_load_0 : decode cL_load 0 = .ok (.iconst 1, 1) := by decide +kernel
theorem dL_load_1 : decode cL_load 1 = .ok (.iload_n 1, 1) := by decide +kernel
theorem dL_load_2 : decode cL_load 2 = .ok (.bipush 12, 2) := by decide +kernel
theorem dL_load_4 : decode cL_load 4 = .ok (.irem, 1) := by decide +kernel
theorem dL_load_5 : decode cL_load 5 = .ok (.iadd, 1) := by decide +kernel
theorem dL_load_6 : decode cL_load 6 = .ok (.istore_n 3, 1) := by decide +kernel
theorem dL_load_7 : decode cL_load 7 = .ok (.aload_n 0, 1) := by decide +kernel
theorem dL_load_8 : decode cL_load 8 = .ok (.invokevirtual 113, 3) := by decide +kernel
theorem dL_load_11 : decode cL_load 11 = .ok (.aload_n 0, 1) := by decide +kernel
theorem dL_load_12 : decode cL_load 12 = .ok (.bipush 70, 2) := by decide +kernel
theorem dL_load_14 : decode cL_load 14 = .ok (.invokevirtual 21, 3) := by decide +kernel
theorem dL_load_17 : decode cL_load 17 = .ok (.iadd, 1) := by decide +kernel
theorem dL_load_18 : decode cL_load 18 = .ok (.aload_n 0, 1) := by decide +kernel
theorem dL_load_19 : decode cL_load 19 = .ok (.iload_n 3, 1) := by decide +kernel
theorem dL_load_20 : decode cL_load 20 = .ok (.invokestatic 117, 3) := by decide +kernel
theorem dL_load_23 : decode cL_load 23 = .ok (.iadd, 1) := by decide +kernel
theorem dL_load_24 : decode cL_load 24 = .ok (.istore 4, 2) := by decide +kernel
theorem dL_load_26 : decode cL_load 26 = .ok (.iload_n 2, 1) := by decide +kernel
theorem dL_load_27 : decode cL_load 27 = .ok (.istore 5, 2) := by decide +kernel
theorem dL_load_29 : decode cL_load 29 = .ok (.iconst 0, 1) := by decide +kernel
theorem dL_load_30 : decode cL_load 30 = .ok (.istore 6, 2) := by decide +kernel
theorem dL_load_32 : decode cL_load 32 = .ok (.iload 6, 2) := by decide +kernel
theorem dL_load_34 : decode cL_load 34 = .ok (.iload_n 3, 1) := by decide +kernel
theorem dL_load_35 : decode cL_load 35 = .ok (.if_icmp .ge 49, 3) := by decide +kernel
theorem dL_load_38 : decode cL_load 38 = .ok (.iload 4, 2) := by decide +kernel
theorem dL_load_40 : decode cL_load 40 = .ok (.aload_n 0, 1) := by decide +kernel
theorem dL_load_41 : decode cL_load 41 = .ok (.iload 5, 2) := by decide +kernel
theorem dL_load_43 : decode cL_load 43 = .ok (.iconst 3, 1) := by decide +kernel
theorem dL_load_44 : decode cL_load 44 = .ok (.irem, 1) := by decide +kernel
theorem dL_load_45 : decode cL_load 45 = .ok (.ifCond .ne 7, 3) := by decide +kernel
theorem dL_load_48 : decode cL_load 48 = .ok (.iconst 0, 1) := by decide +kernel
theorem dL_load_49 : decode cL_load 49 = .ok (.goto 8, 3) := by decide +kernel
theorem dL_load_52 : decode cL_load 52 = .ok (.iload 5, 2) := by decide +kernel
theorem dL_load_54 : decode cL_load 54 = .ok (.bipush 100, 2) := by decide +kernel
theorem dL_load_56 : decode cL_load 56 = .ok (.irem, 1) := by decide +kernel
theorem dL_load_57 : decode cL_load 57 = .ok (.invokestatic 117, 3) := by decide +kernel
theorem dL_load_60 : decode cL_load 60 = .ok (.iadd, 1) := by decide +kernel
theorem dL_load_61 : decode cL_load 61 = .ok (.istore 4, 2) := by decide +kernel
theorem dL_load_63 : decode cL_load 63 = .ok (.iload 5, 2) := by decide +kernel
theorem dL_load_65 : decode cL_load 65 = .ok (.iconst 3, 1) := by decide +kernel
theorem dL_load_66 : decode cL_load 66 = .ok (.idiv, 1) := by decide +kernel
theorem dL_load_67 : decode cL_load 67 = .ok (.sipush 7919, 3) := by decide +kernel
theorem dL_load_70 : decode cL_load 70 = .ok (.iload 6, 2) := by decide +kernel
theorem dL_load_72 : decode cL_load 72 = .ok (.iconst 1, 1) := by decide +kernel
theorem dL_load_73 : decode cL_load 73 = .ok (.iadd, 1) := by decide +kernel
theorem dL_load_74 : decode cL_load 74 = .ok (.imul, 1) := by decide +kernel
theorem dL_load_75 : decode cL_load 75 = .ok (.iadd, 1) := by decide +kernel
theorem dL_load_76 : decode cL_load 76 = .ok (.istore 5, 2) := by decide +kernel
theorem dL_load_78 : decode cL_load 78 = .ok (.iinc 6 1, 3) := by decide +kernel
theorem dL_load_81 : decode cL_load 81 = .ok (.goto (-49), 3) := by decide +kernel
theorem dL_load_84 : decode cL_load 84 = .ok (.iconst 1, 1) := by decide +kernel
theorem dL_load_85 : decode cL_load 85 = .ok (.istore 6, 2) := by decide +kernel
theorem dL_load_87 : decode cL_load 87 = .ok (.iload 6, 2) := by decide +kernel
theorem dL_load_89 : decode cL_load 89 = .ok (.iload_n 3, 1) := by decide +kernel
theorem dL_load_90 : decode cL_load 90 = .ok (.if_icmp .ge 130, 3) := by decide +kernel
theorem dL_load_93 : decode cL_load 93 = .ok (.iload 5, 2) := by decide +kernel
theorem dL_load_95 : decode cL_load 95 = .ok (.bipush 6, 2) := by decide +kernel
theorem dL_load_97 : decode cL_load 97 = .ok (.irem, 1) := by decide +kernel
theorem dL_load_98 : decode cL_load 98 = .ok (.ifCond .le 102, 3) := by decide +kernel
theorem dL_load_101 : decode cL_load 101 = .ok (.iload 5, 2) := by decide +kernel
theorem dL_load_103 : decode cL_load 103 = .ok (.bipush 6, 2) := by decide +kernel
theorem dL_load_105 : decode cL_load 105 = .ok (.idiv, 1) := by decide +kernel
theorem dL_load_106 : decode cL_load 106 = .ok (.iconst 4, 1) := by decide +kernel
theorem dL_load_107 : decode cL_load 107 = .ok (.irem, 1) := by decide +kernel
theorem dL_load_108 : decode cL_load 108 = .ok (.ifCond .ne 10, 3) := by decide +kernel
theorem dL_load_111 : decode cL_load 111 = .ok (.iload 6, 2) := by decide +kernel
theorem dL_load_113 : decode cL_load 113 = .ok (.iconst 1, 1) := by decide +kernel
theorem dL_load_114 : decode cL_load 114 = .ok (.isub, 1) := by decide +kernel
theorem dL_load_115 : decode cL_load 115 = .ok (.goto 11, 3) := by decide +kernel
theorem dL_load_118 : decode cL_load 118 = .ok (.iload 5, 2) := by decide +kernel
theorem dL_load_120 : decode cL_load 120 = .ok (.bipush 24, 2) := by decide +kernel
theorem dL_load_122 : decode cL_load 122 = .ok (.idiv, 1) := by decide +kernel
theorem dL_load_123 : decode cL_load 123 = .ok (.iload 6, 2) := by decide +kernel
theorem dL_load_125 : decode cL_load 125 = .ok (.irem, 1) := by decide +kernel
theorem dL_load_126 : decode cL_load 126 = .ok (.istore 7, 2) := by decide +kernel
theorem dL_load_128 : decode cL_load 128 = .ok (.iload 4, 2) := by decide +kernel
theorem dL_load_130 : decode cL_load 130 = .ok (.iload 5, 2) := by decide +kernel
theorem dL_load_132 : decode cL_load 132 = .ok (.iconst 2, 1) := by decide +kernel
theorem dL_load_133 : decode cL_load 133 = .ok (.irem, 1) := by decide +kernel
theorem dL_load_134 : decode cL_load 134 = .ok (.ifCond .ne 25, 3) := by decide +kernel
theorem dL_load_137 : decode cL_load 137 = .ok (.aload_n 0, 1) := by decide +kernel
theorem dL_load_138 : decode cL_load 138 = .ok (.bipush 97, 2) := by decide +kernel
theorem dL_load_140 : decode cL_load 140 = .ok (.iload 6, 2) := by decide +kernel
theorem dL_load_142 : decode cL_load 142 = .ok (.iadd, 1) := by decide +kernel
theorem dL_load_143 : decode cL_load 143 = .ok (.invokevirtual 21, 3) := by decide +kernel
theorem dL_load_146 : decode cL_load 146 = .ok (.aload_n 0, 1) := by decide +kernel
theorem dL_load_147 : decode cL_load 147 = .ok (.bipush 97, 2) := by decide +kernel
theorem dL_load_149 : decode cL_load 149 = .ok (.iload 7, 2) := by decide +kernel
theorem dL_load_151 : decode cL_load 151 = .ok (.iadd, 1) := by decide +kernel
theorem dL_load_152 : decode cL_load 152 = .ok (.invokevirtual 21, 3) := by decide +kernel
theorem dL_load_155 : decode cL_load 155 = .ok (.iadd, 1) := by decide +kernel
theorem dL_load_156 : decode cL_load 156 = .ok (.goto 22, 3) := by decide +kernel
theorem dL_load_159 : decode cL_load 159 = .ok (.aload_n 0, 1) := by decide +kernel
theorem dL_load_160 : decode cL_load 160 = .ok (.bipush 97, 2) := by decide +kernel
theorem dL_load_162 : decode cL_load 162 = .ok (.iload 7, 2) := by decide +kernel
theorem dL_load_164 : decode cL_load 164 = .ok (.iadd, 1) := by decide +kernel
theorem dL_load_165 : decode cL_load 165 = .ok (.invokevirtual 21, 3) := by decide +kernel
theorem dL_load_168 : decode cL_load 168 = .ok (.aload_n 0, 1) := by decide +kernel
theorem dL_load_169 : decode cL_load 169 = .ok (.bipush 97, 2) := by decide +kernel
theorem dL_load_171 : decode cL_load 171 = .ok (.iload 6, 2) := by decide +kernel
theorem dL_load_173 : decode cL_load 173 = .ok (.iadd, 1) := by decide +kernel
theorem dL_load_174 : decode cL_load 174 = .ok (.invokevirtual 21, 3) := by decide +kernel
theorem dL_load_177 : decode cL_load 177 = .ok (.iadd, 1) := by decide +kernel
theorem dL_load_178 : decode cL_load 178 = .ok (.iadd, 1) := by decide +kernel
theorem dL_load_179 : decode cL_load 179 = .ok (.istore 4, 2) := by decide +kernel
theorem dL_load_181 : decode cL_load 181 = .ok (.iload 4, 2) := by decide +kernel
theorem dL_load_183 : decode cL_load 183 = .ok (.aload_n 0, 1) := by decide +kernel
theorem dL_load_184 : decode cL_load 184 = .ok (.iconst 1, 1) := by decide +kernel
theorem dL_load_185 : decode cL_load 185 = .ok (.iload 5, 2) := by decide +kernel
theorem dL_load_187 : decode cL_load 187 = .ok (.bipush 11, 2) := by decide +kernel
theorem dL_load_189 : decode cL_load 189 = .ok (.idiv, 1) := by decide +kernel
theorem dL_load_190 : decode cL_load 190 = .ok (.bipush 99, 2) := by decide +kernel
theorem dL_load_192 : decode cL_load 192 = .ok (.irem, 1) := by decide +kernel
theorem dL_load_193 : decode cL_load 193 = .ok (.iadd, 1) := by decide +kernel
theorem dL_load_194 : decode cL_load 194 = .ok (.invokestatic 117, 3) := by decide +kernel
theorem dL_load_197 : decode cL_load 197 = .ok (.iadd, 1) := by decide +kernel
theorem dL_load_198 : decode cL_load 198 = .ok (.istore 4, 2) := by decide +kernel
theorem dL_load_200 : decode cL_load 200 = .ok (.iload 5, 2) := by decide +kernel
theorem dL_load_202 : decode cL_load 202 = .ok (.iconst 5, 1) := by decide +kernel
theorem dL_load_203 : decode cL_load 203 = .ok (.idiv, 1) := by decide +kernel
theorem dL_load_204 : decode cL_load 204 = .ok (.ldc 121, 2) := by decide +kernel
theorem dL_load_206 : decode cL_load 206 = .ok (.iload 6, 2) := by decide +kernel
theorem dL_load_208 : decode cL_load 208 = .ok (.iconst 2, 1) := by decide +kernel
theorem dL_load_209 : decode cL_load 209 = .ok (.iadd, 1) := by decide +kernel
theorem dL_load_210 : decode cL_load 210 = .ok (.imul, 1) := by decide +kernel
theorem dL_load_211 : decode cL_load 211 = .ok (.iadd, 1) := by decide +kernel
theorem dL_load_212 : decode cL_load 212 = .ok (.istore 5, 2) := by decide +kernel
theorem dL_load_214 : decode cL_load 214 = .ok (.iinc 6 1, 3) := by decide +kernel
theorem dL_load_217 : decode cL_load 217 = .ok (.goto (-130), 3) := by decide +kernel
theorem dL_load_220 : decode cL_load 220 = .ok (.iload 4, 2) := by decide +kernel
theorem dL_load_222 : decode cL_load 222 = .ok (.iload_n 1, 1) := by decide +kernel
theorem dL_load_223 : decode cL_load 223 = .ok (.bipush 41, 2) := by decide +kernel
theorem dL_load_225 : decode cL_load 225 = .ok (.irem, 1) := by decide +kernel
theorem dL_load_226 : decode cL_load 226 = .ok (.ifCond .ne 18, 3) := by decide +kernel
theorem dL_load_229 : decode cL_load 229 = .ok (.aload_n 0, 1) := by decide +kernel
theorem dL_load_230 : decode cL_load 230 = .ok (.ldc 122, 2) := by decide +kernel
theorem dL_load_232 : decode cL_load 232 = .ok (.iload_n 2, 1) := by decide +kernel
theorem dL_load_233 : decode cL_load 233 = .ok (.iconst 4, 1) := by decide +kernel
theorem dL_load_234 : decode cL_load 234 = .ok (.irem, 1) := by decide +kernel
theorem dL_load_235 : decode cL_load 235 = .ok (.invokevirtual 124, 3) := by decide +kernel
theorem dL_load_238 : decode cL_load 238 = .ok (.invokevirtual 21, 3) := by decide +kernel
theorem dL_load_241 : decode cL_load 241 = .ok (.goto 4, 3) := by decide +kernel
theorem dL_load_244 : decode cL_load 244 = .ok (.iconst 0, 1) := by decide +kernel
theorem dL_load_245 : decode cL_load 245 = .ok (.iadd, 1) := by decide +kernel
theorem dL_load_246 : decode cL_load 246 = .ok (.istore 4, 2) := by decide +kernel
theorem dL_load_248 : decode cL_load 248 = .ok (.bipush 53, 2) := by decide +kernel
theorem dL_load_250 : decode cL_load 250 = .ok (.iload 4, 2) := by decide +kernel
theorem dL_load_252 : decode cL_load 252 = .ok (.imul, 1) := by decide +kernel
theorem dL_load_253 : decode cL_load 253 = .ok (.aload_n 0, 1) := by decide +kernel
theorem dL_load_254 : decode cL_load 254 = .ok (.invokevirtual 130, 3) := by decide +kernel
theorem dL_load_257 : decode cL_load 257 = .ok (.iadd, 1) := by decide +kernel
theorem dL_load_258 : decode cL_load 258 = .ok (.ireturn, 1) := by decide +kernel
theorem dL_act_0 : decode cL_act 0 = .ok (.iload_n 1, 1) := by decide +kernel
theorem dL_act_1 : decode cL_act 1 = .ok (.bipush 15, 2) := by decide +kernel
theorem dL_act_3 : decode cL_act 3 = .ok (.iand, 1) := by decide +kernel
theorem dL_act_4 : decode cL_act 4 = .ok (.tableswitch 207 0 14 #[76, 76, 76, 76, 85, 85, 85, 85, 111, 111, 127, 153, 169, 174, 199], 76) := by decide +kernel
theorem dL_act_80 : decode cL_act 80 = .ok (.aload_n 0, 1) := by decide +kernel
theorem dL_act_81 : decode cL_act 81 = .ok (.iload_n 1, 1) := by decide +kernel
theorem dL_act_82 : decode cL_act 82 = .ok (.iconst 4, 1) := by decide +kernel
theorem dL_act_83 : decode cL_act 83 = .ok (.ishr, 1) := by decide +kernel
theorem dL_act_84 : decode cL_act 84 = .ok (.iload_n 2, 1) := by decide +kernel
theorem dL_act_85 : decode cL_act 85 = .ok (.invokestatic 133, 3) := by decide +kernel
theorem dL_act_88 : decode cL_act 88 = .ok (.ireturn, 1) := by decide +kernel
theorem dL_act_89 : decode cL_act 89 = .ok (.aload_n 0, 1) := by decide +kernel
theorem dL_act_90 : decode cL_act 90 = .ok (.iload_n 2, 1) := by decide +kernel
theorem dL_act_91 : decode cL_act 91 = .ok (.bipush 12, 2) := by decide +kernel
theorem dL_act_93 : decode cL_act 93 = .ok (.irem, 1) := by decide +kernel
theorem dL_act_94 : decode cL_act 94 = .ok (.iload_n 2, 1) := by decide +kernel
theorem dL_act_95 : decode cL_act 95 = .ok (.bipush 12, 2) := by decide +kernel
theorem dL_act_97 : decode cL_act 97 = .ok (.idiv, 1) := by decide +kernel
theorem dL_act_98 : decode cL_act 98 = .ok (.bipush 12, 2) := by decide +kernel
theorem dL_act_100 : decode cL_act 100 = .ok (.irem, 1) := by decide +kernel
theorem dL_act_101 : decode cL_act 101 = .ok (.iconst 1, 1) := by decide +kernel
theorem dL_act_102 : decode cL_act 102 = .ok (.iload_n 2, 1) := by decide +kernel
theorem dL_act_103 : decode cL_act 103 = .ok (.sipush 144, 3) := by decide +kernel
theorem dL_act_106 : decode cL_act 106 = .ok (.idiv, 1) := by decide +kernel
theorem dL_act_107 : decode cL_act 107 = .ok (.bipush 99, 2) := by decide +kernel
theorem dL_act_109 : decode cL_act 109 = .ok (.irem, 1) := by decide +kernel
theorem dL_act_110 : decode cL_act 110 = .ok (.iadd, 1) := by decide +kernel
theorem dL_act_111 : decode cL_act 111 = .ok (.invokevirtual 31, 3) := by decide +kernel
theorem dL_act_114 : decode cL_act 114 = .ok (.ireturn, 1) := by decide +kernel
theorem dL_act_115 : decode cL_act 115 = .ok (.aload_n 0, 1) := by decide +kernel
theorem dL_act_116 : decode cL_act 116 = .ok (.iload_n 2, 1) := by decide +kernel
theorem dL_act_117 : decode cL_act 117 = .ok (.bipush 12, 2) := by decide +kernel
theorem dL_act_119 : decode cL_act 119 = .ok (.irem, 1) := by decide +kernel
theorem dL_act_120 : decode cL_act 120 = .ok (.iload_n 2, 1) := by decide +kernel
theorem dL_act_121 : decode cL_act 121 = .ok (.bipush 12, 2) := by decide +kernel
theorem dL_act_123 : decode cL_act 123 = .ok (.idiv, 1) := by decide +kernel
theorem dL_act_124 : decode cL_act 124 = .ok (.bipush 12, 2) := by decide +kernel
theorem dL_act_126 : decode cL_act 126 = .ok (.irem, 1) := by decide +kernel
theorem dL_act_127 : decode cL_act 127 = .ok (.invokevirtual 35, 3) := by decide +kernel
theorem dL_act_130 : decode cL_act 130 = .ok (.ireturn, 1) := by decide +kernel
theorem dL_act_131 : decode cL_act 131 = .ok (.aload_n 0, 1) := by decide +kernel
theorem dL_act_132 : decode cL_act 132 = .ok (.iload_n 2, 1) := by decide +kernel
theorem dL_act_133 : decode cL_act 133 = .ok (.bipush 12, 2) := by decide +kernel
theorem dL_act_135 : decode cL_act 135 = .ok (.irem, 1) := by decide +kernel
theorem dL_act_136 : decode cL_act 136 = .ok (.iload_n 2, 1) := by decide +kernel
theorem dL_act_137 : decode cL_act 137 = .ok (.bipush 12, 2) := by decide +kernel
theorem dL_act_139 : decode cL_act 139 = .ok (.idiv, 1) := by decide +kernel
theorem dL_act_140 : decode cL_act 140 = .ok (.bipush 12, 2) := by decide +kernel
theorem dL_act_142 : decode cL_act 142 = .ok (.irem, 1) := by decide +kernel
theorem dL_act_143 : decode cL_act 143 = .ok (.iconst 1, 1) := by decide +kernel
theorem dL_act_144 : decode cL_act 144 = .ok (.iload_n 2, 1) := by decide +kernel
theorem dL_act_145 : decode cL_act 145 = .ok (.sipush 144, 3) := by decide +kernel
theorem dL_act_148 : decode cL_act 148 = .ok (.idiv, 1) := by decide +kernel
theorem dL_act_149 : decode cL_act 149 = .ok (.bipush 99, 2) := by decide +kernel
theorem dL_act_151 : decode cL_act 151 = .ok (.irem, 1) := by decide +kernel
theorem dL_act_152 : decode cL_act 152 = .ok (.iadd, 1) := by decide +kernel
theorem dL_act_153 : decode cL_act 153 = .ok (.invokevirtual 38, 3) := by decide +kernel
theorem dL_act_156 : decode cL_act 156 = .ok (.ireturn, 1) := by decide +kernel
theorem dL_act_157 : decode cL_act 157 = .ok (.aload_n 0, 1) := by decide +kernel
theorem dL_act_158 : decode cL_act 158 = .ok (.iload_n 2, 1) := by decide +kernel
theorem dL_act_159 : decode cL_act 159 = .ok (.bipush 12, 2) := by decide +kernel
theorem dL_act_161 : decode cL_act 161 = .ok (.irem, 1) := by decide +kernel
theorem dL_act_162 : decode cL_act 162 = .ok (.iload_n 2, 1) := by decide +kernel
theorem dL_act_163 : decode cL_act 163 = .ok (.bipush 12, 2) := by decide +kernel
theorem dL_act_165 : decode cL_act 165 = .ok (.idiv, 1) := by decide +kernel
theorem dL_act_166 : decode cL_act 166 = .ok (.bipush 100, 2) := by decide +kernel
theorem dL_act_168 : decode cL_act 168 = .ok (.irem, 1) := by decide +kernel
theorem dL_act_169 : decode cL_act 169 = .ok (.invokevirtual 41, 3) := by decide +kernel
theorem dL_act_172 : decode cL_act 172 = .ok (.ireturn, 1) := by decide +kernel
theorem dL_act_173 : decode cL_act 173 = .ok (.aload_n 0, 1) := by decide +kernel
theorem dL_act_174 : decode cL_act 174 = .ok (.invokevirtual 136, 3) := by decide +kernel
theorem dL_act_177 : decode cL_act 177 = .ok (.ireturn, 1) := by decide +kernel
theorem dL_act_178 : decode cL_act 178 = .ok (.aload_n 0, 1) := by decide +kernel
theorem dL_act_179 : decode cL_act 179 = .ok (.iload_n 2, 1) := by decide +kernel
theorem dL_act_180 : decode cL_act 180 = .ok (.bipush 12, 2) := by decide +kernel
theorem dL_act_182 : decode cL_act 182 = .ok (.irem, 1) := by decide +kernel
theorem dL_act_183 : decode cL_act 183 = .ok (.iload_n 2, 1) := by decide +kernel
theorem dL_act_184 : decode cL_act 184 = .ok (.bipush 12, 2) := by decide +kernel
theorem dL_act_186 : decode cL_act 186 = .ok (.idiv, 1) := by decide +kernel
theorem dL_act_187 : decode cL_act 187 = .ok (.bipush 12, 2) := by decide +kernel
theorem dL_act_189 : decode cL_act 189 = .ok (.irem, 1) := by decide +kernel
theorem dL_act_190 : decode cL_act 190 = .ok (.iload_n 2, 1) := by decide +kernel
theorem dL_act_191 : decode cL_act 191 = .ok (.sipush 144, 3) := by decide +kernel
theorem dL_act_194 : decode cL_act 194 = .ok (.idiv, 1) := by decide +kernel
theorem dL_act_195 : decode cL_act 195 = .ok (.sipush 300, 3) := by decide +kernel
theorem dL_act_198 : decode cL_act 198 = .ok (.irem, 1) := by decide +kernel
theorem dL_act_199 : decode cL_act 199 = .ok (.invokevirtual 91, 3) := by decide +kernel
theorem dL_act_202 : decode cL_act 202 = .ok (.ireturn, 1) := by decide +kernel
theorem dL_act_203 : decode cL_act 203 = .ok (.aload_n 0, 1) := by decide +kernel
theorem dL_act_204 : decode cL_act 204 = .ok (.iload_n 2, 1) := by decide +kernel
theorem dL_act_205 : decode cL_act 205 = .ok (.iconst 1, 1) := by decide +kernel
theorem dL_act_206 : decode cL_act 206 = .ok (.iand, 1) := by decide +kernel
theorem dL_act_207 : decode cL_act 207 = .ok (.invokevirtual 107, 3) := by decide +kernel
theorem dL_act_210 : decode cL_act 210 = .ok (.ireturn, 1) := by decide +kernel
theorem dL_act_211 : decode cL_act 211 = .ok (.aload_n 0, 1) := by decide +kernel
theorem dL_act_212 : decode cL_act 212 = .ok (.iload_n 2, 1) := by decide +kernel
theorem dL_act_213 : decode cL_act 213 = .ok (.iconst 1, 1) := by decide +kernel
theorem dL_act_214 : decode cL_act 214 = .ok (.iand, 1) := by decide +kernel
theorem dL_act_215 : decode cL_act 215 = .ok (.invokevirtual 110, 3) := by decide +kernel
theorem dL_act_218 : decode cL_act 218 = .ok (.ireturn, 1) := by decide +kernel
theorem dL_now_0 : decode cL_now 0 = .ok (.lconst 1, 1) := by decide +kernel
theorem dL_now_1 : decode cL_now 1 = .ok (.lstore_n 1, 1) := by decide +kernel
theorem dL_now_2 : decode cL_now 2 = .ok (.iconst 0, 1) := by decide +kernel
theorem dL_now_3 : decode cL_now 3 = .ok (.istore_n 3, 1) := by decide +kernel
theorem dL_now_4 : decode cL_now 4 = .ok (.iload_n 3, 1) := by decide +kernel
theorem dL_now_5 : decode cL_now 5 = .ok (.bipush 12, 2) := by decide +kernel
theorem dL_now_7 : decode cL_now 7 = .ok (.if_icmp .ge 60, 3) := by decide +kernel
theorem dL_now_10 : decode cL_now 10 = .ok (.ldc2_w 139, 3) := by decide +kernel
theorem dL_now_13 : decode cL_now 13 = .ok (.lload_n 1, 1) := by decide +kernel
theorem dL_now_14 : decode cL_now 14 = .ok (.lmul, 1) := by decide +kernel
theorem dL_now_15 : decode cL_now 15 = .ok (.ldc2_w 141, 3) := by decide +kernel
theorem dL_now_18 : decode cL_now 18 = .ok (.lrem, 1) := by decide +kernel
theorem dL_now_19 : decode cL_now 19 = .ok (.aload_n 0, 1) := by decide +kernel
theorem dL_now_20 : decode cL_now 20 = .ok (.iload_n 3, 1) := by decide +kernel
theorem dL_now_21 : decode cL_now 21 = .ok (.invokevirtual 9, 3) := by decide +kernel
theorem dL_now_24 : decode cL_now 24 = .ok (.i2l, 1) := by decide +kernel
theorem dL_now_25 : decode cL_now 25 = .ok (.ladd, 1) := by decide +kernel
theorem dL_now_26 : decode cL_now 26 = .ok (.lstore_n 1, 1) := by decide +kernel
theorem dL_now_27 : decode cL_now 27 = .ok (.iconst 0, 1) := by decide +kernel
theorem dL_now_28 : decode cL_now 28 = .ok (.istore 4, 2) := by decide +kernel
theorem dL_now_30 : decode cL_now 30 = .ok (.iload 4, 2) := by decide +kernel
theorem dL_now_32 : decode cL_now 32 = .ok (.iload_n 3, 1) := by decide +kernel
theorem dL_now_33 : decode cL_now 33 = .ok (.if_icmp .ge 28, 3) := by decide +kernel
theorem dL_now_36 : decode cL_now 36 = .ok (.ldc2_w 143, 3) := by decide +kernel
theorem dL_now_39 : decode cL_now 39 = .ok (.lload_n 1, 1) := by decide +kernel
theorem dL_now_40 : decode cL_now 40 = .ok (.lmul, 1) := by decide +kernel
theorem dL_now_41 : decode cL_now 41 = .ok (.ldc2_w 145, 3) := by decide +kernel
theorem dL_now_44 : decode cL_now 44 = .ok (.lrem, 1) := by decide +kernel
theorem dL_now_45 : decode cL_now 45 = .ok (.aload_n 0, 1) := by decide +kernel
theorem dL_now_46 : decode cL_now 46 = .ok (.iload_n 3, 1) := by decide +kernel
theorem dL_now_47 : decode cL_now 47 = .ok (.iload 4, 2) := by decide +kernel
theorem dL_now_49 : decode cL_now 49 = .ok (.invokevirtual 24, 3) := by decide +kernel
theorem dL_now_52 : decode cL_now 52 = .ok (.i2l, 1) := by decide +kernel
theorem dL_now_53 : decode cL_now 53 = .ok (.ladd, 1) := by decide +kernel
theorem dL_now_54 : decode cL_now 54 = .ok (.lstore_n 1, 1) := by decide +kernel
theorem dL_now_55 : decode cL_now 55 = .ok (.iinc 4 1, 3) := by decide +kernel
theorem dL_now_58 : decode cL_now 58 = .ok (.goto (-28), 3) := by decide +kernel
theorem dL_now_61 : decode cL_now 61 = .ok (.iinc 3 1, 3) := by decide +kernel
theorem dL_now_64 : decode cL_now 64 = .ok (.goto (-60), 3) := by decide +kernel
theorem dL_now_67 : decode cL_now 67 = .ok (.lload_n 1, 1) := by decide +kernel
theorem dL_now_68 : decode cL_now 68 = .ok (.lreturn, 1) := by decide +kernel
theorem dL_alike_0 : decode cL_alike 0 = .ok (.aload_n 0, 1) := by decide +kernel
theorem dL_alike_1 : decode cL_alike 1 = .ok (.invokestatic 147, 3) := by decide +kernel
theorem dL_alike_4 : decode cL_alike 4 = .ok (.aload_n 1, 1) := by decide +kernel
theorem dL_alike_5 : decode cL_alike 5 = .ok (.invokestatic 147, 3) := by decide +kernel
theorem dL_alike_8 : decode cL_alike 8 = .ok (.lcmp, 1) := by decide +kernel
theorem dL_alike_9 : decode cL_alike 9 = .ok (.ifCond .ne 39, 3) := by decide +kernel
theorem dL_alike_12 : decode cL_alike 12 = .ok (.aload_n 0, 1) := by decide +kernel
theorem dL_alike_13 : decode cL_alike 13 = .ok (.invokevirtual 151, 3) := by decide +kernel
theorem dL_alike_16 : decode cL_alike 16 = .ok (.aload_n 1, 1) := by decide +kernel
theorem dL_alike_17 : decode cL_alike 17 = .ok (.invokevirtual 151, 3) := by decide +kernel
theorem dL_alike_20 : decode cL_alike 20 = .ok (.if_icmp .ne 28, 3) := by decide +kernel
theorem dL_alike_23 : decode cL_alike 23 = .ok (.aload_n 0, 1) := by decide +kernel
theorem dL_alike_24 : decode cL_alike 24 = .ok (.ldc2_w 154, 3) := by decide +kernel
theorem dL_alike_27 : decode cL_alike 27 = .ok (.bipush 9, 2) := by decide +kernel
theorem dL_alike_29 : decode cL_alike 29 = .ok (.invokevirtual 103, 3) := by decide +kernel
theorem dL_alike_32 : decode cL_alike 32 = .ok (.aload_n 1, 1) := by decide +kernel
theorem dL_alike_33 : decode cL_alike 33 = .ok (.ldc2_w 154, 3) := by decide +kernel
theorem dL_alike_36 : decode cL_alike 36 = .ok (.bipush 9, 2) := by decide +kernel
theorem dL_alike_38 : decode cL_alike 38 = .ok (.invokevirtual 103, 3) := by decide +kernel
theorem dL_alike_41 : decode cL_alike 41 = .ok (.if_icmp .ne 7, 3) := by decide +kernel
theorem dL_alike_44 : decode cL_alike 44 = .ok (.iconst 1, 1) := by decide +kernel
theorem dL_alike_45 : decode cL_alike 45 = .ok (.goto 4, 3) := by decide +kernel
theorem dL_alike_48 : decode cL_alike 48 = .ok (.iconst 0, 1) := by decide +kernel
theorem dL_alike_49 : decode cL_alike 49 = .ok (.istore_n 2, 1) := by decide +kernel
theorem dL_alike_50 : decode cL_alike 50 = .ok (.iconst 0, 1) := by decide +kernel
theorem dL_alike_51 : decode cL_alike 51 = .ok (.istore_n 3, 1) := by decide +kernel
theorem dL_alike_52 : decode cL_alike 52 = .ok (.iload_n 3, 1) := by decide +kernel
theorem dL_alike_53 : decode cL_alike 53 = .ok (.bipush 12, 2) := by decide +kernel
theorem dL_alike_55 : decode cL_alike 55 = .ok (.if_icmp .ge 242, 3) := by decide +kernel
theorem dL_alike_58 : decode cL_alike 58 = .ok (.iload_n 2, 1) := by decide +kernel
theorem dL_alike_59 : decode cL_alike 59 = .ok (.ifCond .eq 230, 3) := by decide +kernel
theorem dL_alike_62 : decode cL_alike 62 = .ok (.aload_n 0, 1) := by decide +kernel
theorem dL_alike_63 : decode cL_alike 63 = .ok (.iload_n 3, 1) := by decide +kernel
theorem dL_alike_64 : decode cL_alike 64 = .ok (.invokevirtual 28, 3) := by decide +kernel
theorem dL_alike_67 : decode cL_alike 67 = .ok (.aload_n 1, 1) := by decide +kernel
theorem dL_alike_68 : decode cL_alike 68 = .ok (.iload_n 3, 1) := by decide +kernel
theorem dL_alike_69 : decode cL_alike 69 = .ok (.invokevirtual 28, 3) := by decide +kernel
theorem dL_alike_72 : decode cL_alike 72 = .ok (.if_icmp .ne 217, 3) := by decide +kernel
theorem dL_alike_75 : decode cL_alike 75 = .ok (.aload_n 0, 1) := by decide +kernel
theorem dL_alike_76 : decode cL_alike 76 = .ok (.iload_n 3, 1) := by decide +kernel
theorem dL_alike_77 : decode cL_alike 77 = .ok (.invokevirtual 50, 3) := by decide +kernel
theorem dL_alike_80 : decode cL_alike 80 = .ok (.aload_n 1, 1) := by decide +kernel
theorem dL_alike_81 : decode cL_alike 81 = .ok (.iload_n 3, 1) := by decide +kernel
theorem dL_alike_82 : decode cL_alike 82 = .ok (.invokevirtual 50, 3) := by decide +kernel
theorem dL_alike_85 : decode cL_alike 85 = .ok (.if_icmp .ne 204, 3) := by decide +kernel
theorem dL_alike_88 : decode cL_alike 88 = .ok (.aload_n 0, 1) := by decide +kernel
theorem dL_alike_89 : decode cL_alike 89 = .ok (.iload_n 3, 1) := by decide +kernel
theorem dL_alike_90 : decode cL_alike 90 = .ok (.invokevirtual 53, 3) := by decide +kernel
theorem dL_alike_93 : decode cL_alike 93 = .ok (.aload_n 1, 1) := by decide +kernel
theorem dL_alike_94 : decode cL_alike 94 = .ok (.iload_n 3, 1) := by decide +kernel
theorem dL_alike_95 : decode cL_alike 95 = .ok (.invokevirtual 53, 3) := by decide +kernel
theorem dL_alike_98 : decode cL_alike 98 = .ok (.if_icmp .ne 191, 3) := by decide +kernel
theorem dL_alike_101 : decode cL_alike 101 = .ok (.aload_n 0, 1) := by decide +kernel
theorem dL_alike_102 : decode cL_alike 102 = .ok (.iload_n 3, 1) := by decide +kernel
theorem dL_alike_103 : decode cL_alike 103 = .ok (.iload_n 3, 1) := by decide +kernel
theorem dL_alike_104 : decode cL_alike 104 = .ok (.iconst 2, 1) := by decide +kernel
theorem dL_alike_105 : decode cL_alike 105 = .ok (.irem, 1) := by decide +kernel
theorem dL_alike_106 : decode cL_alike 106 = .ok (.invokevirtual 56, 3) := by decide +kernel
theorem dL_alike_109 : decode cL_alike 109 = .ok (.aload_n 1, 1) := by decide +kernel
theorem dL_alike_110 : decode cL_alike 110 = .ok (.iload_n 3, 1) := by decide +kernel
theorem dL_alike_111 : decode cL_alike 111 = .ok (.iload_n 3, 1) := by decide +kernel
theorem dL_alike_112 : decode cL_alike 112 = .ok (.iconst 2, 1) := by decide +kernel
theorem dL_alike_113 : decode cL_alike 113 = .ok (.irem, 1) := by decide +kernel
theorem dL_alike_114 : decode cL_alike 114 = .ok (.invokevirtual 56, 3) := by decide +kernel
theorem dL_alike_117 : decode cL_alike 117 = .ok (.if_icmp .ne 172, 3) := by decide +kernel
theorem dL_alike_120 : decode cL_alike 120 = .ok (.aload_n 0, 1) := by decide +kernel
theorem dL_alike_121 : decode cL_alike 121 = .ok (.iload_n 3, 1) := by decide +kernel
theorem dL_alike_122 : decode cL_alike 122 = .ok (.invokevirtual 59, 3) := by decide +kernel
theorem dL_alike_125 : decode cL_alike 125 = .ok (.aload_n 1, 1) := by decide +kernel
theorem dL_alike_126 : decode cL_alike 126 = .ok (.iload_n 3, 1) := by decide +kernel
theorem dL_alike_127 : decode cL_alike 127 = .ok (.invokevirtual 59, 3) := by decide +kernel
theorem dL_alike_130 : decode cL_alike 130 = .ok (.if_icmp .ne 159, 3) := by decide +kernel
theorem dL_alike_133 : decode cL_alike 133 = .ok (.aload_n 0, 1) := by decide +kernel
theorem dL_alike_134 : decode cL_alike 134 = .ok (.iload_n 3, 1) := by decide +kernel
theorem dL_alike_135 : decode cL_alike 135 = .ok (.invokevirtual 62, 3) := by decide +kernel
theorem dL_alike_138 : decode cL_alike 138 = .ok (.aload_n 1, 1) := by decide +kernel
theorem dL_alike_139 : decode cL_alike 139 = .ok (.iload_n 3, 1) := by decide +kernel
theorem dL_alike_140 : decode cL_alike 140 = .ok (.invokevirtual 62, 3) := by decide +kernel
theorem dL_alike_143 : decode cL_alike 143 = .ok (.if_icmp .ne 146, 3) := by decide +kernel
theorem dL_alike_146 : decode cL_alike 146 = .ok (.aload_n 0, 1) := by decide +kernel
theorem dL_alike_147 : decode cL_alike 147 = .ok (.iload_n 3, 1) := by decide +kernel
theorem dL_alike_148 : decode cL_alike 148 = .ok (.invokevirtual 65, 3) := by decide +kernel
theorem dL_alike_151 : decode cL_alike 151 = .ok (.aload_n 1, 1) := by decide +kernel
theorem dL_alike_152 : decode cL_alike 152 = .ok (.iload_n 3, 1) := by decide +kernel
theorem dL_alike_153 : decode cL_alike 153 = .ok (.invokevirtual 65, 3) := by decide +kernel
theorem dL_alike_156 : decode cL_alike 156 = .ok (.if_icmp .ne 133, 3) := by decide +kernel
theorem dL_alike_159 : decode cL_alike 159 = .ok (.aload_n 0, 1) := by decide +kernel
theorem dL_alike_160 : decode cL_alike 160 = .ok (.iload_n 3, 1) := by decide +kernel
theorem dL_alike_161 : decode cL_alike 161 = .ok (.invokevirtual 71, 3) := by decide +kernel
theorem dL_alike_164 : decode cL_alike 164 = .ok (.aload_n 1, 1) := by decide +kernel
theorem dL_alike_165 : decode cL_alike 165 = .ok (.iload_n 3, 1) := by decide +kernel
theorem dL_alike_166 : decode cL_alike 166 = .ok (.invokevirtual 71, 3) := by decide +kernel
theorem dL_alike_169 : decode cL_alike 169 = .ok (.if_icmp .ne 120, 3) := by decide +kernel
theorem dL_alike_172 : decode cL_alike 172 = .ok (.aload_n 0, 1) := by decide +kernel
theorem dL_alike_173 : decode cL_alike 173 = .ok (.iload_n 3, 1) := by decide +kernel
theorem dL_alike_174 : decode cL_alike 174 = .ok (.invokevirtual 74, 3) := by decide +kernel
theorem dL_alike_177 : decode cL_alike 177 = .ok (.aload_n 1, 1) := by decide +kernel
theorem dL_alike_178 : decode cL_alike 178 = .ok (.iload_n 3, 1) := by decide +kernel
theorem dL_alike_179 : decode cL_alike 179 = .ok (.invokevirtual 74, 3) := by decide +kernel
theorem dL_alike_182 : decode cL_alike 182 = .ok (.if_icmp .ne 107, 3) := by decide +kernel
theorem dL_alike_185 : decode cL_alike 185 = .ok (.aload_n 0, 1) := by decide +kernel
theorem dL_alike_186 : decode cL_alike 186 = .ok (.iload_n 3, 1) := by decide +kernel
theorem dL_alike_187 : decode cL_alike 187 = .ok (.invokevirtual 77, 3) := by decide +kernel
theorem dL_alike_190 : decode cL_alike 190 = .ok (.aload_n 1, 1) := by decide +kernel
theorem dL_alike_191 : decode cL_alike 191 = .ok (.iload_n 3, 1) := by decide +kernel
theorem dL_alike_192 : decode cL_alike 192 = .ok (.invokevirtual 77, 3) := by decide +kernel
theorem dL_alike_195 : decode cL_alike 195 = .ok (.if_icmp .ne 94, 3) := by decide +kernel
theorem dL_alike_198 : decode cL_alike 198 = .ok (.aload_n 0, 1) := by decide +kernel
theorem dL_alike_199 : decode cL_alike 199 = .ok (.iload_n 3, 1) := by decide +kernel
theorem dL_alike_200 : decode cL_alike 200 = .ok (.invokevirtual 80, 3) := by decide +kernel
theorem dL_alike_203 : decode cL_alike 203 = .ok (.aload_n 1, 1) := by decide +kernel
theorem dL_alike_204 : decode cL_alike 204 = .ok (.iload_n 3, 1) := by decide +kernel
theorem dL_alike_205 : decode cL_alike 205 = .ok (.invokevirtual 80, 3) := by decide +kernel
theorem dL_alike_208 : decode cL_alike 208 = .ok (.if_icmp .ne 81, 3) := by decide +kernel
theorem dL_alike_211 : decode cL_alike 211 = .ok (.aload_n 0, 1) := by decide +kernel
theorem dL_alike_212 : decode cL_alike 212 = .ok (.iload_n 3, 1) := by decide +kernel
theorem dL_alike_213 : decode cL_alike 213 = .ok (.iload_n 3, 1) := by decide +kernel
theorem dL_alike_214 : decode cL_alike 214 = .ok (.bipush 11, 2) := by decide +kernel
theorem dL_alike_216 : decode cL_alike 216 = .ok (.irem, 1) := by decide +kernel
theorem dL_alike_217 : decode cL_alike 217 = .ok (.invokevirtual 83, 3) := by decide +kernel
theorem dL_alike_220 : decode cL_alike 220 = .ok (.aload_n 1, 1) := by decide +kernel
theorem dL_alike_221 : decode cL_alike 221 = .ok (.iload_n 3, 1) := by decide +kernel
theorem dL_alike_222 : decode cL_alike 222 = .ok (.iload_n 3, 1) := by decide +kernel
theorem dL_alike_223 : decode cL_alike 223 = .ok (.bipush 11, 2) := by decide +kernel
theorem dL_alike_225 : decode cL_alike 225 = .ok (.irem, 1) := by decide +kernel
theorem dL_alike_226 : decode cL_alike 226 = .ok (.invokevirtual 83, 3) := by decide +kernel
theorem dL_alike_229 : decode cL_alike 229 = .ok (.lcmp, 1) := by decide +kernel
theorem dL_alike_230 : decode cL_alike 230 = .ok (.ifCond .ne 59, 3) := by decide +kernel
theorem dL_alike_233 : decode cL_alike 233 = .ok (.aload_n 0, 1) := by decide +kernel
theorem dL_alike_234 : decode cL_alike 234 = .ok (.iload_n 3, 1) := by decide +kernel
theorem dL_alike_235 : decode cL_alike 235 = .ok (.iconst 5, 1) := by decide +kernel
theorem dL_alike_236 : decode cL_alike 236 = .ok (.iload_n 3, 1) := by decide +kernel
theorem dL_alike_237 : decode cL_alike 237 = .ok (.iconst 3, 1) := by decide +kernel
theorem dL_alike_238 : decode cL_alike 238 = .ok (.iadd, 1) := by decide +kernel
theorem dL_alike_239 : decode cL_alike 239 = .ok (.bipush 12, 2) := by decide +kernel
theorem dL_alike_241 : decode cL_alike 241 = .ok (.irem, 1) := by decide +kernel
theorem dL_alike_242 : decode cL_alike 242 = .ok (.invokevirtual 68, 3) := by decide +kernel
theorem dL_alike_245 : decode cL_alike 245 = .ok (.aload_n 1, 1) := by decide +kernel
theorem dL_alike_246 : decode cL_alike 246 = .ok (.iload_n 3, 1) := by decide +kernel
theorem dL_alike_247 : decode cL_alike 247 = .ok (.iconst 5, 1) := by decide +kernel
theorem dL_alike_248 : decode cL_alike 248 = .ok (.iload_n 3, 1) := by decide +kernel
theorem dL_alike_249 : decode cL_alike 249 = .ok (.iconst 3, 1) := by decide +kernel
theorem dL_alike_250 : decode cL_alike 250 = .ok (.iadd, 1) := by decide +kernel
theorem dL_alike_251 : decode cL_alike 251 = .ok (.bipush 12, 2) := by decide +kernel
theorem dL_alike_253 : decode cL_alike 253 = .ok (.irem, 1) := by decide +kernel
theorem dL_alike_254 : decode cL_alike 254 = .ok (.invokevirtual 68, 3) := by decide +kernel
theorem dL_alike_257 : decode cL_alike 257 = .ok (.if_icmp .ne 32, 3) := by decide +kernel
theorem dL_alike_260 : decode cL_alike 260 = .ok (.aload_n 0, 1) := by decide +kernel
theorem dL_alike_261 : decode cL_alike 261 = .ok (.iload_n 3, 1) := by decide +kernel
theorem dL_alike_262 : decode cL_alike 262 = .ok (.iload_n 3, 1) := by decide +kernel
theorem dL_alike_263 : decode cL_alike 263 = .ok (.iconst 1, 1) := by decide +kernel
theorem dL_alike_264 : decode cL_alike 264 = .ok (.iadd, 1) := by decide +kernel
theorem dL_alike_265 : decode cL_alike 265 = .ok (.bipush 12, 2) := by decide +kernel
theorem dL_alike_267 : decode cL_alike 267 = .ok (.irem, 1) := by decide +kernel
theorem dL_alike_268 : decode cL_alike 268 = .ok (.invokevirtual 94, 3) := by decide +kernel
theorem dL_alike_271 : decode cL_alike 271 = .ok (.aload_n 1, 1) := by decide +kernel
theorem dL_alike_272 : decode cL_alike 272 = .ok (.iload_n 3, 1) := by decide +kernel
theorem dL_alike_273 : decode cL_alike 273 = .ok (.iload_n 3, 1) := by decide +kernel
theorem dL_alike_274 : decode cL_alike 274 = .ok (.iconst 1, 1) := by decide +kernel
theorem dL_alike_275 : decode cL_alike 275 = .ok (.iadd, 1) := by decide +kernel
theorem dL_alike_276 : decode cL_alike 276 = .ok (.bipush 12, 2) := by decide +kernel
theorem dL_alike_278 : decode cL_alike 278 = .ok (.irem, 1) := by decide +kernel
theorem dL_alike_279 : decode cL_alike 279 = .ok (.invokevirtual 94, 3) := by decide +kernel
theorem dL_alike_282 : decode cL_alike 282 = .ok (.if_icmp .ne 7, 3) := by decide +kernel
theorem dL_alike_285 : decode cL_alike 285 = .ok (.iconst 1, 1) := by decide +kernel
theorem dL_alike_286 : decode cL_alike 286 = .ok (.goto 4, 3) := by decide +kernel
theorem dL_alike_289 : decode cL_alike 289 = .ok (.iconst 0, 1) := by decide +kernel
theorem dL_alike_290 : decode cL_alike 290 = .ok (.istore_n 2, 1) := by decide +kernel
theorem dL_alike_291 : decode cL_alike 291 = .ok (.iinc 3 1, 3) := by decide +kernel
theorem dL_alike_294 : decode cL_alike 294 = .ok (.goto (-242), 3) := by decide +kernel
theorem dL_alike_297 : decode cL_alike 297 = .ok (.iload_n 2, 1) := by decide +kernel
theorem dL_alike_298 : decode cL_alike 298 = .ok (.ireturn, 1) := by decide +kernel
theorem dL_built_0 : decode cL_built 0 = .ok (.aload_n 0, 1) := by decide +kernel
theorem dL_built_1 : decode cL_built 1 = .ok (.invokestatic 15, 3) := by decide +kernel
theorem dL_built_4 : decode cL_built 4 = .ok (.istore_n 2, 1) := by decide +kernel
theorem dL_built_5 : decode cL_built 5 = .ok (.iload_n 1, 1) := by decide +kernel
theorem dL_built_6 : decode cL_built 6 = .ok (.iload_n 2, 1) := by decide +kernel
theorem dL_built_7 : decode cL_built 7 = .ok (.irem, 1) := by decide +kernel
theorem dL_built_8 : decode cL_built 8 = .ok (.istore_n 3, 1) := by decide +kernel
theorem dL_built_9 : decode cL_built 9 = .ok (.aload_n 0, 1) := by decide +kernel
theorem dL_built_10 : decode cL_built 10 = .ok (.iload_n 3, 1) := by decide +kernel
theorem dL_built_11 : decode cL_built 11 = .ok (.invokevirtual 77, 3) := by decide +kernel
theorem dL_built_14 : decode cL_built 14 = .ok (.istore 4, 2) := by decide +kernel
theorem dL_built_16 : decode cL_built 16 = .ok (.iconst 0, 1) := by decide +kernel
theorem dL_built_17 : decode cL_built 17 = .ok (.istore 5, 2) := by decide +kernel
theorem dL_built_19 : decode cL_built 19 = .ok (.iconst 0, 1) := by decide +kernel
theorem dL_built_20 : decode cL_built 20 = .ok (.istore 6, 2) := by decide +kernel
theorem dL_built_22 : decode cL_built 22 = .ok (.lconst 0, 1) := by decide +kernel
theorem dL_built_23 : decode cL_built 23 = .ok (.lstore 7, 2) := by decide +kernel
theorem dL_built_25 : decode cL_built 25 = .ok (.iconst 0, 1) := by decide +kernel
theorem dL_built_26 : decode cL_built 26 = .ok (.istore 9, 2) := by decide +kernel
theorem dL_built_28 : decode cL_built 28 = .ok (.iconst 0, 1) := by decide +kernel
theorem dL_built_29 : decode cL_built 29 = .ok (.istore 10, 2) := by decide +kernel
theorem dL_built_31 : decode cL_built 31 = .ok (.aload_n 0, 1) := by decide +kernel
theorem dL_built_32 : decode cL_built 32 = .ok (.iload_n 3, 1) := by decide +kernel
theorem dL_built_33 : decode cL_built 33 = .ok (.invokevirtual 28, 3) := by decide +kernel
theorem dL_built_36 : decode cL_built 36 = .ok (.iload_n 3, 1) := by decide +kernel
theorem dL_built_37 : decode cL_built 37 = .ok (.if_icmp .gt 30, 3) := by decide +kernel
theorem dL_built_40 : decode cL_built 40 = .ok (.aload_n 0, 1) := by decide +kernel
theorem dL_built_41 : decode cL_built 41 = .ok (.iload_n 3, 1) := by decide +kernel
theorem dL_built_42 : decode cL_built 42 = .ok (.iload_n 3, 1) := by decide +kernel
theorem dL_built_43 : decode cL_built 43 = .ok (.invokevirtual 44, 3) := by decide +kernel
theorem dL_built_46 : decode cL_built 46 = .ok (.ifCond .ne 21, 3) := by decide +kernel
theorem dL_built_49 : decode cL_built 49 = .ok (.aload_n 0, 1) := by decide +kernel
theorem dL_built_50 : decode cL_built 50 = .ok (.iload 4, 2) := by decide +kernel
theorem dL_built_52 : decode cL_built 52 = .ok (.invokevirtual 28, 3) := by decide +kernel
theorem dL_built_55 : decode cL_built 55 = .ok (.aload_n 0, 1) := by decide +kernel
theorem dL_built_56 : decode cL_built 56 = .ok (.iload_n 3, 1) := by decide +kernel
theorem dL_built_57 : decode cL_built 57 = .ok (.invokevirtual 28, 3) := by decide +kernel
theorem dL_built_60 : decode cL_built 60 = .ok (.if_icmp .ne 7, 3) := by decide +kernel
theorem dL_built_63 : decode cL_built 63 = .ok (.iconst 1, 1) := by decide +kernel
theorem dL_built_64 : decode cL_built 64 = .ok (.goto 4, 3) := by decide +kernel
theorem dL_built_67 : decode cL_built 67 = .ok (.iconst 0, 1) := by decide +kernel
theorem dL_built_68 : decode cL_built 68 = .ok (.istore 11, 2) := by decide +kernel
theorem dL_built_70 : decode cL_built 70 = .ok (.iconst 0, 1) := by decide +kernel
theorem dL_built_71 : decode cL_built 71 = .ok (.istore 12, 2) := by decide +kernel
theorem dL_built_73 : decode cL_built 73 = .ok (.iload 12, 2) := by decide +kernel
theorem dL_built_75 : decode cL_built 75 = .ok (.iload_n 2, 1) := by decide +kernel
theorem dL_built_76 : decode cL_built 76 = .ok (.if_icmp .ge 670, 3) := by decide +kernel
theorem dL_built_79 : decode cL_built 79 = .ok (.iload 11, 2) := by decide +kernel
theorem dL_built_81 : decode cL_built 81 = .ok (.ifCond .eq 665, 3) := by decide +kernel
theorem dL_built_84 : decode cL_built 84 = .ok (.aload_n 0, 1) := by decide +kernel
theorem dL_built_85 : decode cL_built 85 = .ok (.iload_n 3, 1) := by decide +kernel
theorem dL_built_86 : decode cL_built 86 = .ok (.iload 12, 2) := by decide +kernel
theorem dL_built_88 : decode cL_built 88 = .ok (.invokevirtual 44, 3) := by decide +kernel
theorem dL_built_91 : decode cL_built 91 = .ok (.istore 13, 2) := by decide +kernel
theorem dL_built_93 : decode cL_built 93 = .ok (.aload_n 0, 1) := by decide +kernel
theorem dL_built_94 : decode cL_built 94 = .ok (.iload_n 3, 1) := by decide +kernel
theorem dL_built_95 : decode cL_built 95 = .ok (.invokevirtual 28, 3) := by decide +kernel
theorem dL_built_98 : decode cL_built 98 = .ok (.aload_n 0, 1) := by decide +kernel
theorem dL_built_99 : decode cL_built 99 = .ok (.iload 12, 2) := by decide +kernel
theorem dL_built_101 : decode cL_built 101 = .ok (.invokevirtual 28, 3) := by decide +kernel
theorem dL_built_104 : decode cL_built 104 = .ok (.if_icmp .ne 7, 3) := by decide +kernel
theorem dL_built_107 : decode cL_built 107 = .ok (.iconst 1, 1) := by decide +kernel
theorem dL_built_108 : decode cL_built 108 = .ok (.goto 4, 3) := by decide +kernel
theorem dL_built_111 : decode cL_built 111 = .ok (.iconst 0, 1) := by decide +kernel
theorem dL_built_112 : decode cL_built 112 = .ok (.istore 14, 2) := by decide +kernel
theorem dL_built_114 : decode cL_built 114 = .ok (.iload 14, 2) := by decide +kernel
theorem dL_built_116 : decode cL_built 116 = .ok (.iload 13, 2) := by decide +kernel
theorem dL_built_118 : decode cL_built 118 = .ok (.bipush (-9), 2) := by decide +kernel
theorem dL_built_120 : decode cL_built 120 = .ok (.if_icmp .eq 7, 3) := by decide +kernel
theorem dL_built_123 : decode cL_built 123 = .ok (.iconst 1, 1) := by decide +kernel
theorem dL_built_124 : decode cL_built 124 = .ok (.goto 4, 3) := by decide +kernel
theorem dL_built_127 : decode cL_built 127 = .ok (.iconst 0, 1) := by decide +kernel
theorem dL_built_128 : decode cL_built 128 = .ok (.if_icmp .ne 48, 3) := by decide +kernel
theorem dL_built_131 : decode cL_built 131 = .ok (.iload 13, 2) := by decide +kernel
theorem dL_built_133 : decode cL_built 133 = .ok (.aload_n 0, 1) := by decide +kernel
theorem dL_built_134 : decode cL_built 134 = .ok (.iload 12, 2) := by decide +kernel
theorem dL_built_136 : decode cL_built 136 = .ok (.iload_n 3, 1) := by decide +kernel
theorem dL_built_137 : decode cL_built 137 = .ok (.invokevirtual 44, 3) := by decide +kernel
theorem dL_built_140 : decode cL_built 140 = .ok (.if_icmp .ne 36, 3) := by decide +kernel
theorem dL_built_143 : decode cL_built 143 = .ok (.iload 13, 2) := by decide +kernel
theorem dL_built_145 : decode cL_built 145 = .ok (.ifCond .le 7, 3) := by decide +kernel
theorem dL_built_148 : decode cL_built 148 = .ok (.iconst 1, 1) := by decide +kernel
theorem dL_built_149 : decode cL_built 149 = .ok (.goto 4, 3) := by decide +kernel
theorem dL_built_152 : decode cL_built 152 = .ok (.iconst 0, 1) := by decide +kernel
theorem dL_built_153 : decode cL_built 153 = .ok (.iload 14, 2) := by decide +kernel
theorem dL_built_155 : decode cL_built 155 = .ok (.ifCond .eq 13, 3) := by decide +kernel
theorem dL_built_158 : decode cL_built 158 = .ok (.iload_n 3, 1) := by decide +kernel
theorem dL_built_159 : decode cL_built 159 = .ok (.iload 12, 2) := by decide +kernel
theorem dL_built_161 : decode cL_built 161 = .ok (.if_icmp .eq 7, 3) := by decide +kernel
theorem dL_built_164 : decode cL_built 164 = .ok (.iconst 1, 1) := by decide +kernel
theorem dL_built_165 : decode cL_built 165 = .ok (.goto 4, 3) := by decide +kernel
theorem dL_built_168 : decode cL_built 168 = .ok (.iconst 0, 1) := by decide +kernel
theorem dL_built_169 : decode cL_built 169 = .ok (.if_icmp .ne 7, 3) := by decide +kernel
theorem dL_built_172 : decode cL_built 172 = .ok (.iconst 1, 1) := by decide +kernel
theorem dL_built_173 : decode cL_built 173 = .ok (.goto 4, 3) := by decide +kernel
theorem dL_built_176 : decode cL_built 176 = .ok (.iconst 0, 1) := by decide +kernel
theorem dL_built_177 : decode cL_built 177 = .ok (.istore 11, 2) := by decide +kernel
theorem dL_built_179 : decode cL_built 179 = .ok (.iload 14, 2) := by decide +kernel
theorem dL_built_181 : decode cL_built 181 = .ok (.ifCond .ne 44, 3) := by decide +kernel
theorem dL_built_184 : decode cL_built 184 = .ok (.iload 11, 2) := by decide +kernel
theorem dL_built_186 : decode cL_built 186 = .ok (.ifCond .eq 33, 3) := by decide +kernel
theorem dL_built_189 : decode cL_built 189 = .ok (.aload_n 0, 1) := by decide +kernel
theorem dL_built_190 : decode cL_built 190 = .ok (.iload_n 3, 1) := by decide +kernel
theorem dL_built_191 : decode cL_built 191 = .ok (.iload 12, 2) := by decide +kernel
theorem dL_built_193 : decode cL_built 193 = .ok (.iload_n 3, 1) := by decide +kernel
theorem dL_built_194 : decode cL_built 194 = .ok (.invokevirtual 68, 3) := by decide +kernel
theorem dL_built_197 : decode cL_built 197 = .ok (.bipush (-9), 2) := by decide +kernel
theorem dL_built_199 : decode cL_built 199 = .ok (.if_icmp .ne 20, 3) := by decide +kernel
theorem dL_built_202 : decode cL_built 202 = .ok (.aload_n 0, 1) := by decide +kernel
theorem dL_built_203 : decode cL_built 203 = .ok (.iload_n 3, 1) := by decide +kernel
theorem dL_built_204 : decode cL_built 204 = .ok (.iload 12, 2) := by decide +kernel
theorem dL_built_206 : decode cL_built 206 = .ok (.iconst 0, 1) := by decide +kernel
theorem dL_built_207 : decode cL_built 207 = .ok (.invokevirtual 47, 3) := by decide +kernel
theorem dL_built_210 : decode cL_built 210 = .ok (.bipush (-9), 2) := by decide +kernel
theorem dL_built_212 : decode cL_built 212 = .ok (.if_icmp .ne 7, 3) := by decide +kernel
theorem dL_built_215 : decode cL_built 215 = .ok (.iconst 1, 1) := by decide +kernel
theorem dL_built_216 : decode cL_built 216 = .ok (.goto 4, 3) := by decide +kernel
theorem dL_built_219 : decode cL_built 219 = .ok (.iconst 0, 1) := by decide +kernel
theorem dL_built_220 : decode cL_built 220 = .ok (.istore 11, 2) := by decide +kernel
theorem dL_built_222 : decode cL_built 222 = .ok (.goto 518, 3) := by decide +kernel
theorem dL_built_225 : decode cL_built 225 = .ok (.iload 13, 2) := by decide +kernel
theorem dL_built_227 : decode cL_built 227 = .ok (.iload 10, 2) := by decide +kernel
theorem dL_built_229 : decode cL_built 229 = .ok (.if_icmp .le 8, 3) := by decide +kernel
theorem dL_built_232 : decode cL_built 232 = .ok (.iload 13, 2) := by decide +kernel
theorem dL_built_234 : decode cL_built 234 = .ok (.goto 5, 3) := by decide +kernel
theorem dL_built_237 : decode cL_built 237 = .ok (.iload 10, 2) := by decide +kernel
theorem dL_built_239 : decode cL_built 239 = .ok (.istore 10, 2) := by decide +kernel
theorem dL_built_241 : decode cL_built 241 = .ok (.iload 9, 2) := by decide +kernel
theorem dL_built_243 : decode cL_built 243 = .ok (.iload 13, 2) := by decide +kernel
theorem dL_built_245 : decode cL_built 245 = .ok (.aload_n 0, 1) := by decide +kernel
theorem dL_built_246 : decode cL_built 246 = .ok (.iload 12, 2) := by decide +kernel
theorem dL_built_248 : decode cL_built 248 = .ok (.invokevirtual 9, 3) := by decide +kernel
theorem dL_built_251 : decode cL_built 251 = .ok (.imul, 1) := by decide +kernel
theorem dL_built_252 : decode cL_built 252 = .ok (.iadd, 1) := by decide +kernel
theorem dL_built_253 : decode cL_built 253 = .ok (.istore 9, 2) := by decide +kernel
theorem dL_built_255 : decode cL_built 255 = .ok (.iconst 0, 1) := by decide +kernel
theorem dL_built_256 : decode cL_built 256 = .ok (.istore 15, 2) := by decide +kernel
theorem dL_built_258 : decode cL_built 258 = .ok (.iload_n 3, 1) := by decide +kernel
theorem dL_built_259 : decode cL_built 259 = .ok (.istore 16, 2) := by decide +kernel
theorem dL_built_261 : decode cL_built 261 = .ok (.iconst 0, 1) := by decide +kernel
theorem dL_built_262 : decode cL_built 262 = .ok (.istore 17, 2) := by decide +kernel
theorem dL_built_264 : decode cL_built 264 = .ok (.iload 16, 2) := by decide +kernel
theorem dL_built_266 : decode cL_built 266 = .ok (.iload 12, 2) := by decide +kernel
theorem dL_built_268 : decode cL_built 268 = .ok (.if_icmp .eq 78, 3) := by decide +kernel
theorem dL_built_271 : decode cL_built 271 = .ok (.iload 11, 2) := by decide +kernel
theorem dL_built_273 : decode cL_built 273 = .ok (.ifCond .eq 73, 3) := by decide +kernel
theorem dL_built_276 : decode cL_built 276 = .ok (.iinc 17 1, 3) := by decide +kernel
theorem dL_built_279 : decode cL_built 279 = .ok (.aload_n 0, 1) := by decide +kernel
theorem dL_built_280 : decode cL_built 280 = .ok (.iload_n 3, 1) := by decide +kernel
theorem dL_built_281 : decode cL_built 281 = .ok (.iload 12, 2) := by decide +kernel
theorem dL_built_283 : decode cL_built 283 = .ok (.iload 17, 2) := by decide +kernel
theorem dL_built_285 : decode cL_built 285 = .ok (.invokevirtual 47, 3) := by decide +kernel
theorem dL_built_288 : decode cL_built 288 = .ok (.istore 18, 2) := by decide +kernel
theorem dL_built_290 : decode cL_built 290 = .ok (.iload 18, 2) := by decide +kernel
theorem dL_built_292 : decode cL_built 292 = .ok (.ifCond .lt 31, 3) := by decide +kernel
theorem dL_built_295 : decode cL_built 295 = .ok (.aload_n 0, 1) := by decide +kernel
theorem dL_built_296 : decode cL_built 296 = .ok (.iload 16, 2) := by decide +kernel
theorem dL_built_298 : decode cL_built 298 = .ok (.iload 18, 2) := by decide +kernel
theorem dL_built_300 : decode cL_built 300 = .ok (.invokevirtual 24, 3) := by decide +kernel
theorem dL_built_303 : decode cL_built 303 = .ok (.ifCond .le 20, 3) := by decide +kernel
theorem dL_built_306 : decode cL_built 306 = .ok (.aload_n 0, 1) := by decide +kernel
theorem dL_built_307 : decode cL_built 307 = .ok (.iload 12, 2) := by decide +kernel
theorem dL_built_309 : decode cL_built 309 = .ok (.iload_n 3, 1) := by decide +kernel
theorem dL_built_310 : decode cL_built 310 = .ok (.iconst 0, 1) := by decide +kernel
theorem dL_built_311 : decode cL_built 311 = .ok (.invokevirtual 47, 3) := by decide +kernel
theorem dL_built_314 : decode cL_built 314 = .ok (.iload 12, 2) := by decide +kernel
theorem dL_built_316 : decode cL_built 316 = .ok (.if_icmp .ne 7, 3) := by decide +kernel
theorem dL_built_319 : decode cL_built 319 = .ok (.iconst 1, 1) := by decide +kernel
theorem dL_built_320 : decode cL_built 320 = .ok (.goto 4, 3) := by decide +kernel
theorem dL_built_323 : decode cL_built 323 = .ok (.iconst 0, 1) := by decide +kernel
theorem dL_built_324 : decode cL_built 324 = .ok (.istore 11, 2) := by decide +kernel
theorem dL_built_326 : decode cL_built 326 = .ok (.iload 15, 2) := by decide +kernel
theorem dL_built_328 : decode cL_built 328 = .ok (.aload_n 0, 1) := by decide +kernel
theorem dL_built_329 : decode cL_built 329 = .ok (.iload 16, 2) := by decide +kernel
theorem dL_built_331 : decode cL_built 331 = .ok (.iload 18, 2) := by decide +kernel
theorem dL_built_333 : decode cL_built 333 = .ok (.invokevirtual 24, 3) := by decide +kernel
theorem dL_built_336 : decode cL_built 336 = .ok (.iadd, 1) := by decide +kernel
theorem dL_built_337 : decode cL_built 337 = .ok (.istore 15, 2) := by decide +kernel
theorem dL_built_339 : decode cL_built 339 = .ok (.iload 18, 2) := by decide +kernel
theorem dL_built_341 : decode cL_built 341 = .ok (.istore 16, 2) := by decide +kernel
theorem dL_built_343 : decode cL_built 343 = .ok (.goto (-79), 3) := by decide +kernel
theorem dL_built_346 : decode cL_built 346 = .ok (.aload_n 0, 1) := by decide +kernel
theorem dL_built_347 : decode cL_built 347 = .ok (.iload 12, 2) := by decide +kernel
theorem dL_built_349 : decode cL_built 349 = .ok (.invokevirtual 9, 3) := by decide +kernel
theorem dL_built_352 : decode cL_built 352 = .ok (.i2l, 1) := by decide +kernel
theorem dL_built_353 : decode cL_built 353 = .ok (.lstore 18, 2) := by decide +kernel
theorem dL_built_355 : decode cL_built 355 = .ok (.iconst 0, 1) := by decide +kernel
theorem dL_built_356 : decode cL_built 356 = .ok (.istore 20, 2) := by decide +kernel
theorem dL_built_358 : decode cL_built 358 = .ok (.iload 20, 2) := by decide +kernel
theorem dL_built_360 : decode cL_built 360 = .ok (.bipush 11, 2) := by decide +kernel
theorem dL_built_362 : decode cL_built 362 = .ok (.if_icmp .ge 30, 3) := by decide +kernel
theorem dL_built_365 : decode cL_built 365 = .ok (.lload 18, 2) := by decide +kernel
theorem dL_built_367 : decode cL_built 367 = .ok (.iload 20, 2) := by decide +kernel
theorem dL_built_369 : decode cL_built 369 = .ok (.iload 17, 2) := by decide +kernel
theorem dL_built_371 : decode cL_built 371 = .ok (.if_icmp .ge 9, 3) := by decide +kernel
theorem dL_built_374 : decode cL_built 374 = .ok (.ldc2_w 156, 3) := by decide +kernel
theorem dL_built_377 : decode cL_built 377 = .ok (.goto 6, 3) := by decide +kernel
theorem dL_built_380 : decode cL_built 380 = .ok (.ldc2_w 158, 3) := by decide +kernel
theorem dL_built_383 : decode cL_built 383 = .ok (.lmul, 1) := by decide +kernel
theorem dL_built_384 : decode cL_built 384 = .ok (.lstore 18, 2) := by decide +kernel
theorem dL_built_386 : decode cL_built 386 = .ok (.iinc 20 1, 3) := by decide +kernel
theorem dL_built_389 : decode cL_built 389 = .ok (.goto (-31), 3) := by decide +kernel
theorem dL_built_392 : decode cL_built 392 = .ok (.lload 7, 2) := by decide +kernel
theorem dL_built_394 : decode cL_built 394 = .ok (.lload 18, 2) := by decide +kernel
theorem dL_built_396 : decode cL_built 396 = .ok (.ladd, 1) := by decide +kernel
theorem dL_built_397 : decode cL_built 397 = .ok (.lstore 7, 2) := by decide +kernel
theorem dL_built_399 : decode cL_built 399 = .ok (.iload 11, 2) := by decide +kernel
theorem dL_built_401 : decode cL_built 401 = .ok (.ifCond .eq 147, 3) := by decide +kernel
theorem dL_built_404 : decode cL_built 404 = .ok (.iload 15, 2) := by decide +kernel
theorem dL_built_406 : decode cL_built 406 = .ok (.iload 13, 2) := by decide +kernel
theorem dL_built_408 : decode cL_built 408 = .ok (.if_icmp .ne 140, 3) := by decide +kernel
theorem dL_built_411 : decode cL_built 411 = .ok (.aload_n 0, 1) := by decide +kernel
theorem dL_built_412 : decode cL_built 412 = .ok (.iload_n 3, 1) := by decide +kernel
theorem dL_built_413 : decode cL_built 413 = .ok (.iload 12, 2) := by decide +kernel
theorem dL_built_415 : decode cL_built 415 = .ok (.iload 17, 2) := by decide +kernel
theorem dL_built_417 : decode cL_built 417 = .ok (.iconst 1, 1) := by decide +kernel
theorem dL_built_418 : decode cL_built 418 = .ok (.iadd, 1) := by decide +kernel
theorem dL_built_419 : decode cL_built 419 = .ok (.invokevirtual 47, 3) := by decide +kernel
theorem dL_built_422 : decode cL_built 422 = .ok (.bipush (-9), 2) := by decide +kernel
theorem dL_built_424 : decode cL_built 424 = .ok (.if_icmp .ne 124, 3) := by decide +kernel
theorem dL_built_427 : decode cL_built 427 = .ok (.aload_n 0, 1) := by decide +kernel
theorem dL_built_428 : decode cL_built 428 = .ok (.iload 12, 2) := by decide +kernel
theorem dL_built_430 : decode cL_built 430 = .ok (.invokevirtual 53, 3) := by decide +kernel
theorem dL_built_433 : decode cL_built 433 = .ok (.aload_n 0, 1) := by decide +kernel
theorem dL_built_434 : decode cL_built 434 = .ok (.iload_n 3, 1) := by decide +kernel
theorem dL_built_435 : decode cL_built 435 = .ok (.invokevirtual 53, 3) := by decide +kernel
theorem dL_built_438 : decode cL_built 438 = .ok (.if_icmp .ne 110, 3) := by decide +kernel
theorem dL_built_441 : decode cL_built 441 = .ok (.aload_n 0, 1) := by decide +kernel
theorem dL_built_442 : decode cL_built 442 = .ok (.iload 12, 2) := by decide +kernel
theorem dL_built_444 : decode cL_built 444 = .ok (.invokevirtual 59, 3) := by decide +kernel
theorem dL_built_447 : decode cL_built 447 = .ok (.aload_n 0, 1) := by decide +kernel
theorem dL_built_448 : decode cL_built 448 = .ok (.iload_n 3, 1) := by decide +kernel
theorem dL_built_449 : decode cL_built 449 = .ok (.invokevirtual 59, 3) := by decide +kernel
theorem dL_built_452 : decode cL_built 452 = .ok (.if_icmp .ne 96, 3) := by decide +kernel
theorem dL_built_455 : decode cL_built 455 = .ok (.aload_n 0, 1) := by decide +kernel
theorem dL_built_456 : decode cL_built 456 = .ok (.iload 12, 2) := by decide +kernel
theorem dL_built_458 : decode cL_built 458 = .ok (.invokevirtual 62, 3) := by decide +kernel
theorem dL_built_461 : decode cL_built 461 = .ok (.aload_n 0, 1) := by decide +kernel
theorem dL_built_462 : decode cL_built 462 = .ok (.iload_n 3, 1) := by decide +kernel
theorem dL_built_463 : decode cL_built 463 = .ok (.invokevirtual 62, 3) := by decide +kernel
theorem dL_built_466 : decode cL_built 466 = .ok (.if_icmp .ne 82, 3) := by decide +kernel
theorem dL_built_469 : decode cL_built 469 = .ok (.aload_n 0, 1) := by decide +kernel
theorem dL_built_470 : decode cL_built 470 = .ok (.iload 12, 2) := by decide +kernel
theorem dL_built_472 : decode cL_built 472 = .ok (.invokevirtual 77, 3) := by decide +kernel
theorem dL_built_475 : decode cL_built 475 = .ok (.iload 4, 2) := by decide +kernel
theorem dL_built_477 : decode cL_built 477 = .ok (.if_icmp .ne 71, 3) := by decide +kernel
theorem dL_built_480 : decode cL_built 480 = .ok (.aload_n 0, 1) := by decide +kernel
theorem dL_built_481 : decode cL_built 481 = .ok (.iload 12, 2) := by decide +kernel
theorem dL_built_483 : decode cL_built 483 = .ok (.invokevirtual 71, 3) := by decide +kernel
theorem dL_built_486 : decode cL_built 486 = .ok (.aload_n 0, 1) := by decide +kernel
theorem dL_built_487 : decode cL_built 487 = .ok (.iload_n 3, 1) := by decide +kernel
theorem dL_built_488 : decode cL_built 488 = .ok (.invokevirtual 71, 3) := by decide +kernel
theorem dL_built_491 : decode cL_built 491 = .ok (.if_icmp .ne 57, 3) := by decide +kernel
theorem dL_built_494 : decode cL_built 494 = .ok (.aload_n 0, 1) := by decide +kernel
theorem dL_built_495 : decode cL_built 495 = .ok (.iload 12, 2) := by decide +kernel
theorem dL_built_497 : decode cL_built 497 = .ok (.invokevirtual 50, 3) := by decide +kernel
theorem dL_built_500 : decode cL_built 500 = .ok (.aload_n 0, 1) := by decide +kernel
theorem dL_built_501 : decode cL_built 501 = .ok (.aload_n 0, 1) := by decide +kernel
theorem dL_built_502 : decode cL_built 502 = .ok (.iload_n 3, 1) := by decide +kernel
theorem dL_built_503 : decode cL_built 503 = .ok (.invokevirtual 59, 3) := by decide +kernel
theorem dL_built_506 : decode cL_built 506 = .ok (.invokevirtual 50, 3) := by decide +kernel
theorem dL_built_509 : decode cL_built 509 = .ok (.if_icmp .lt 39, 3) := by decide +kernel
theorem dL_built_512 : decode cL_built 512 = .ok (.aload_n 0, 1) := by decide +kernel
theorem dL_built_513 : decode cL_built 513 = .ok (.iload 12, 2) := by decide +kernel
theorem dL_built_515 : decode cL_built 515 = .ok (.invokevirtual 65, 3) := by decide +kernel
theorem dL_built_518 : decode cL_built 518 = .ok (.aload_n 0, 1) := by decide +kernel
theorem dL_built_519 : decode cL_built 519 = .ok (.aload_n 0, 1) := by decide +kernel
theorem dL_built_520 : decode cL_built 520 = .ok (.iload_n 3, 1) := by decide +kernel
theorem dL_built_521 : decode cL_built 521 = .ok (.invokevirtual 62, 3) := by decide +kernel
theorem dL_built_524 : decode cL_built 524 = .ok (.invokevirtual 65, 3) := by decide +kernel
theorem dL_built_527 : decode cL_built 527 = .ok (.if_icmp .lt 21, 3) := by decide +kernel
theorem dL_built_530 : decode cL_built 530 = .ok (.aload_n 0, 1) := by decide +kernel
theorem dL_built_531 : decode cL_built 531 = .ok (.iload 12, 2) := by decide +kernel
theorem dL_built_533 : decode cL_built 533 = .ok (.invokevirtual 50, 3) := by decide +kernel
theorem dL_built_536 : decode cL_built 536 = .ok (.aload_n 0, 1) := by decide +kernel
theorem dL_built_537 : decode cL_built 537 = .ok (.iload_n 3, 1) := by decide +kernel
theorem dL_built_538 : decode cL_built 538 = .ok (.invokevirtual 53, 3) := by decide +kernel
theorem dL_built_541 : decode cL_built 541 = .ok (.if_icmp .gt 7, 3) := by decide +kernel
theorem dL_built_544 : decode cL_built 544 = .ok (.iconst 1, 1) := by decide +kernel
theorem dL_built_545 : decode cL_built 545 = .ok (.goto 4, 3) := by decide +kernel
theorem dL_built_548 : decode cL_built 548 = .ok (.iconst 0, 1) := by decide +kernel
theorem dL_built_549 : decode cL_built 549 = .ok (.istore 11, 2) := by decide +kernel
theorem dL_built_551 : decode cL_built 551 = .ok (.aload_n 0, 1) := by decide +kernel
theorem dL_built_552 : decode cL_built 552 = .ok (.iload 12, 2) := by decide +kernel
theorem dL_built_554 : decode cL_built 554 = .ok (.invokevirtual 74, 3) := by decide +kernel
theorem dL_built_557 : decode cL_built 557 = .ok (.istore 20, 2) := by decide +kernel
theorem dL_built_559 : decode cL_built 559 = .ok (.iload 11, 2) := by decide +kernel
theorem dL_built_561 : decode cL_built 561 = .ok (.ifCond .eq 44, 3) := by decide +kernel
theorem dL_built_564 : decode cL_built 564 = .ok (.iload 20, 2) := by decide +kernel
theorem dL_built_566 : decode cL_built 566 = .ok (.bipush (-9), 2) := by decide +kernel
theorem dL_built_568 : decode cL_built 568 = .ok (.if_icmp .ne 7, 3) := by decide +kernel
theorem dL_built_571 : decode cL_built 571 = .ok (.iconst 1, 1) := by decide +kernel
theorem dL_built_572 : decode cL_built 572 = .ok (.goto 4, 3) := by decide +kernel
theorem dL_built_575 : decode cL_built 575 = .ok (.iconst 0, 1) := by decide +kernel
theorem dL_built_576 : decode cL_built 576 = .ok (.iload 12, 2) := by decide +kernel
theorem dL_built_578 : decode cL_built 578 = .ok (.iload 4, 2) := by decide +kernel
theorem dL_built_580 : decode cL_built 580 = .ok (.if_icmp .ne 7, 3) := by decide +kernel
theorem dL_built_583 : decode cL_built 583 = .ok (.iconst 1, 1) := by decide +kernel
theorem dL_built_584 : decode cL_built 584 = .ok (.goto 4, 3) := by decide +kernel
theorem dL_built_587 : decode cL_built 587 = .ok (.iconst 0, 1) := by decide +kernel
theorem dL_built_588 : decode cL_built 588 = .ok (.if_icmp .ne 17, 3) := by decide +kernel
theorem dL_built_591 : decode cL_built 591 = .ok (.iload 20, 2) := by decide +kernel
theorem dL_built_593 : decode cL_built 593 = .ok (.aload_n 0, 1) := by decide +kernel
theorem dL_built_594 : decode cL_built 594 = .ok (.iload_n 3, 1) := by decide +kernel
theorem dL_built_595 : decode cL_built 595 = .ok (.invokevirtual 71, 3) := by decide +kernel
theorem dL_built_598 : decode cL_built 598 = .ok (.if_icmp .gt 7, 3) := by decide +kernel
theorem dL_built_601 : decode cL_built 601 = .ok (.iconst 1, 1) := by decide +kernel
theorem dL_built_602 : decode cL_built 602 = .ok (.goto 4, 3) := by decide +kernel
theorem dL_built_605 : decode cL_built 605 = .ok (.iconst 0, 1) := by decide +kernel
theorem dL_built_606 : decode cL_built 606 = .ok (.istore 11, 2) := by decide +kernel
theorem dL_built_608 : decode cL_built 608 = .ok (.iload 20, 2) := by decide +kernel
theorem dL_built_610 : decode cL_built 610 = .ok (.iload 6, 2) := by decide +kernel
theorem dL_built_612 : decode cL_built 612 = .ok (.if_icmp .le 8, 3) := by decide +kernel
theorem dL_built_615 : decode cL_built 615 = .ok (.iload 20, 2) := by decide +kernel
theorem dL_built_617 : decode cL_built 617 = .ok (.goto 5, 3) := by decide +kernel
theorem dL_built_620 : decode cL_built 620 = .ok (.iload 6, 2) := by decide +kernel
theorem dL_built_622 : decode cL_built 622 = .ok (.istore 6, 2) := by decide +kernel
theorem dL_built_624 : decode cL_built 624 = .ok (.iload 5, 2) := by decide +kernel
theorem dL_built_626 : decode cL_built 626 = .ok (.iload 20, 2) := by decide +kernel
theorem dL_built_628 : decode cL_built 628 = .ok (.bipush (-9), 2) := by decide +kernel
theorem dL_built_630 : decode cL_built 630 = .ok (.if_icmp .ne 7, 3) := by decide +kernel
theorem dL_built_633 : decode cL_built 633 = .ok (.iconst 0, 1) := by decide +kernel
theorem dL_built_634 : decode cL_built 634 = .ok (.goto 4, 3) := by decide +kernel
theorem dL_built_637 : decode cL_built 637 = .ok (.iconst 1, 1) := by decide +kernel
theorem dL_built_638 : decode cL_built 638 = .ok (.iadd, 1) := by decide +kernel
theorem dL_built_639 : decode cL_built 639 = .ok (.istore 5, 2) := by decide +kernel
theorem dL_built_641 : decode cL_built 641 = .ok (.iload_n 1, 1) := by decide +kernel
theorem dL_built_642 : decode cL_built 642 = .ok (.bipush 12, 2) := by decide +kernel
theorem dL_built_644 : decode cL_built 644 = .ok (.idiv, 1) := by decide +kernel
theorem dL_built_645 : decode cL_built 645 = .ok (.iload_n 2, 1) := by decide +kernel
theorem dL_built_646 : decode cL_built 646 = .ok (.irem, 1) := by decide +kernel
theorem dL_built_647 : decode cL_built 647 = .ok (.istore 21, 2) := by decide +kernel
theorem dL_built_649 : decode cL_built 649 = .ok (.aload_n 0, 1) := by decide +kernel
theorem dL_built_650 : decode cL_built 650 = .ok (.iload_n 3, 1) := by decide +kernel
theorem dL_built_651 : decode cL_built 651 = .ok (.iload 12, 2) := by decide +kernel
theorem dL_built_653 : decode cL_built 653 = .ok (.iload 21, 2) := by decide +kernel
theorem dL_built_655 : decode cL_built 655 = .ok (.invokevirtual 68, 3) := by decide +kernel
theorem dL_built_658 : decode cL_built 658 = .ok (.istore 22, 2) := by decide +kernel
theorem dL_built_660 : decode cL_built 660 = .ok (.iload 22, 2) := by decide +kernel
theorem dL_built_662 : decode cL_built 662 = .ok (.bipush (-9), 2) := by decide +kernel
theorem dL_built_664 : decode cL_built 664 = .ok (.if_icmp .eq 76, 3) := by decide +kernel
theorem dL_built_667 : decode cL_built 667 = .ok (.iload 11, 2) := by decide +kernel
theorem dL_built_669 : decode cL_built 669 = .ok (.ifCond .eq 71, 3) := by decide +kernel
theorem dL_built_672 : decode cL_built 672 = .ok (.aload_n 0, 1) := by decide +kernel
theorem dL_built_673 : decode cL_built 673 = .ok (.iload_n 3, 1) := by decide +kernel
theorem dL_built_674 : decode cL_built 674 = .ok (.iload 22, 2) := by decide +kernel
theorem dL_built_676 : decode cL_built 676 = .ok (.invokevirtual 44, 3) := by decide +kernel
theorem dL_built_679 : decode cL_built 679 = .ok (.aload_n 0, 1) := by decide +kernel
theorem dL_built_680 : decode cL_built 680 = .ok (.iload 22, 2) := by decide +kernel
theorem dL_built_682 : decode cL_built 682 = .ok (.iload 12, 2) := by decide +kernel
theorem dL_built_684 : decode cL_built 684 = .ok (.invokevirtual 44, 3) := by decide +kernel
theorem dL_built_687 : decode cL_built 687 = .ok (.iadd, 1) := by decide +kernel
theorem dL_built_688 : decode cL_built 688 = .ok (.iload 13, 2) := by decide +kernel
theorem dL_built_690 : decode cL_built 690 = .ok (.if_icmp .ne 47, 3) := by decide +kernel
theorem dL_built_693 : decode cL_built 693 = .ok (.aload_n 0, 1) := by decide +kernel
theorem dL_built_694 : decode cL_built 694 = .ok (.iload_n 3, 1) := by decide +kernel
theorem dL_built_695 : decode cL_built 695 = .ok (.iload 22, 2) := by decide +kernel
theorem dL_built_697 : decode cL_built 697 = .ok (.invokevirtual 44, 3) := by decide +kernel
theorem dL_built_700 : decode cL_built 700 = .ok (.aload_n 0, 1) := by decide +kernel
theorem dL_built_701 : decode cL_built 701 = .ok (.iload 22, 2) := by decide +kernel
theorem dL_built_703 : decode cL_built 703 = .ok (.iload 21, 2) := by decide +kernel
theorem dL_built_705 : decode cL_built 705 = .ok (.invokevirtual 44, 3) := by decide +kernel
theorem dL_built_708 : decode cL_built 708 = .ok (.iadd, 1) := by decide +kernel
theorem dL_built_709 : decode cL_built 709 = .ok (.aload_n 0, 1) := by decide +kernel
theorem dL_built_710 : decode cL_built 710 = .ok (.iload_n 3, 1) := by decide +kernel
theorem dL_built_711 : decode cL_built 711 = .ok (.iload 21, 2) := by decide +kernel
theorem dL_built_713 : decode cL_built 713 = .ok (.invokevirtual 44, 3) := by decide +kernel
theorem dL_built_716 : decode cL_built 716 = .ok (.if_icmp .ne 21, 3) := by decide +kernel
theorem dL_built_719 : decode cL_built 719 = .ok (.aload_n 0, 1) := by decide +kernel
theorem dL_built_720 : decode cL_built 720 = .ok (.iload 21, 2) := by decide +kernel
theorem dL_built_722 : decode cL_built 722 = .ok (.iload 12, 2) := by decide +kernel
theorem dL_built_724 : decode cL_built 724 = .ok (.iload_n 3, 1) := by decide +kernel
theorem dL_built_725 : decode cL_built 725 = .ok (.invokevirtual 68, 3) := by decide +kernel
theorem dL_built_728 : decode cL_built 728 = .ok (.iload 22, 2) := by decide +kernel
theorem dL_built_730 : decode cL_built 730 = .ok (.if_icmp .ne 7, 3) := by decide +kernel
theorem dL_built_733 : decode cL_built 733 = .ok (.iconst 1, 1) := by decide +kernel
theorem dL_built_734 : decode cL_built 734 = .ok (.goto 4, 3) := by decide +kernel
theorem dL_built_737 : decode cL_built 737 = .ok (.iconst 0, 1) := by decide +kernel
theorem dL_built_738 : decode cL_built 738 = .ok (.istore 11, 2) := by decide +kernel
theorem dL_built_740 : decode cL_built 740 = .ok (.iinc 12 1, 3) := by decide +kernel
theorem dL_built_743 : decode cL_built 743 = .ok (.goto (-670), 3) := by decide +kernel
theorem dL_built_746 : decode cL_built 746 = .ok (.aload_n 0, 1) := by decide +kernel
theorem dL_built_747 : decode cL_built 747 = .ok (.iload_n 3, 1) := by decide +kernel
theorem dL_built_748 : decode cL_built 748 = .ok (.iconst 0, 1) := by decide +kernel
theorem dL_built_749 : decode cL_built 749 = .ok (.invokevirtual 56, 3) := by decide +kernel
theorem dL_built_752 : decode cL_built 752 = .ok (.istore 12, 2) := by decide +kernel
theorem dL_built_754 : decode cL_built 754 = .ok (.aload_n 0, 1) := by decide +kernel
theorem dL_built_755 : decode cL_built 755 = .ok (.iload_n 3, 1) := by decide +kernel
theorem dL_built_756 : decode cL_built 756 = .ok (.iconst 1, 1) := by decide +kernel
theorem dL_built_757 : decode cL_built 757 = .ok (.invokevirtual 56, 3) := by decide +kernel
theorem dL_built_760 : decode cL_built 760 = .ok (.istore 13, 2) := by decide +kernel
theorem dL_built_762 : decode cL_built 762 = .ok (.iload 11, 2) := by decide +kernel
theorem dL_built_764 : decode cL_built 764 = .ok (.ifCond .eq 190, 3) := by decide +kernel
theorem dL_built_767 : decode cL_built 767 = .ok (.iload 6, 2) := by decide +kernel
theorem dL_built_769 : decode cL_built 769 = .ok (.aload_n 0, 1) := by decide +kernel
theorem dL_built_770 : decode cL_built 770 = .ok (.iload_n 3, 1) := by decide +kernel
theorem dL_built_771 : decode cL_built 771 = .ok (.invokevirtual 71, 3) := by decide +kernel
theorem dL_built_774 : decode cL_built 774 = .ok (.if_icmp .ne 180, 3) := by decide +kernel
theorem dL_built_777 : decode cL_built 777 = .ok (.iload 10, 2) := by decide +kernel
theorem dL_built_779 : decode cL_built 779 = .ok (.aload_n 0, 1) := by decide +kernel
theorem dL_built_780 : decode cL_built 780 = .ok (.iload_n 3, 1) := by decide +kernel
theorem dL_built_781 : decode cL_built 781 = .ok (.invokevirtual 50, 3) := by decide +kernel
theorem dL_built_784 : decode cL_built 784 = .ok (.if_icmp .ne 170, 3) := by decide +kernel
theorem dL_built_787 : decode cL_built 787 = .ok (.iload 9, 2) := by decide +kernel
theorem dL_built_789 : decode cL_built 789 = .ok (.aload_n 0, 1) := by decide +kernel
theorem dL_built_790 : decode cL_built 790 = .ok (.iload_n 3, 1) := by decide +kernel
theorem dL_built_791 : decode cL_built 791 = .ok (.invokevirtual 65, 3) := by decide +kernel
theorem dL_built_794 : decode cL_built 794 = .ok (.if_icmp .ne 160, 3) := by decide +kernel
theorem dL_built_797 : decode cL_built 797 = .ok (.lload 7, 2) := by decide +kernel
theorem dL_built_799 : decode cL_built 799 = .ok (.aload_n 0, 1) := by decide +kernel
theorem dL_built_800 : decode cL_built 800 = .ok (.iload_n 3, 1) := by decide +kernel
theorem dL_built_801 : decode cL_built 801 = .ok (.iconst 3, 1) := by decide +kernel
theorem dL_built_802 : decode cL_built 802 = .ok (.invokevirtual 83, 3) := by decide +kernel
theorem dL_built_805 : decode cL_built 805 = .ok (.lcmp, 1) := by decide +kernel
theorem dL_built_806 : decode cL_built 806 = .ok (.ifCond .ne 148, 3) := by decide +kernel
theorem dL_built_809 : decode cL_built 809 = .ok (.iload 12, 2) := by decide +kernel
theorem dL_built_811 : decode cL_built 811 = .ok (.iload 13, 2) := by decide +kernel
theorem dL_built_813 : decode cL_built 813 = .ok (.if_icmp .gt 141, 3) := by decide +kernel
theorem dL_built_816 : decode cL_built 816 = .ok (.aload_n 0, 1) := by decide +kernel
theorem dL_built_817 : decode cL_built 817 = .ok (.iload 12, 2) := by decide +kernel
theorem dL_built_819 : decode cL_built 819 = .ok (.iload 13, 2) := by decide +kernel
theorem dL_built_821 : decode cL_built 821 = .ok (.invokevirtual 44, 3) := by decide +kernel
theorem dL_built_824 : decode cL_built 824 = .ok (.aload_n 0, 1) := by decide +kernel
theorem dL_built_825 : decode cL_built 825 = .ok (.iload_n 3, 1) := by decide +kernel
theorem dL_built_826 : decode cL_built 826 = .ok (.invokevirtual 53, 3) := by decide +kernel
theorem dL_built_829 : decode cL_built 829 = .ok (.if_icmp .ne 125, 3) := by decide +kernel
theorem dL_built_832 : decode cL_built 832 = .ok (.aload_n 0, 1) := by decide +kernel
theorem dL_built_833 : decode cL_built 833 = .ok (.iload 12, 2) := by decide +kernel
theorem dL_built_835 : decode cL_built 835 = .ok (.invokevirtual 28, 3) := by decide +kernel
theorem dL_built_838 : decode cL_built 838 = .ok (.aload_n 0, 1) := by decide +kernel
theorem dL_built_839 : decode cL_built 839 = .ok (.iload_n 3, 1) := by decide +kernel
theorem dL_built_840 : decode cL_built 840 = .ok (.invokevirtual 28, 3) := by decide +kernel
theorem dL_built_843 : decode cL_built 843 = .ok (.if_icmp .ne 111, 3) := by decide +kernel
theorem dL_built_846 : decode cL_built 846 = .ok (.iconst 2, 1) := by decide +kernel
theorem dL_built_847 : decode cL_built 847 = .ok (.aload_n 0, 1) := by decide +kernel
theorem dL_built_848 : decode cL_built 848 = .ok (.aload_n 0, 1) := by decide +kernel
theorem dL_built_849 : decode cL_built 849 = .ok (.iload_n 3, 1) := by decide +kernel
theorem dL_built_850 : decode cL_built 850 = .ok (.invokevirtual 59, 3) := by decide +kernel
theorem dL_built_853 : decode cL_built 853 = .ok (.invokevirtual 50, 3) := by decide +kernel
theorem dL_built_856 : decode cL_built 856 = .ok (.imul, 1) := by decide +kernel
theorem dL_built_857 : decode cL_built 857 = .ok (.aload_n 0, 1) := by decide +kernel
theorem dL_built_858 : decode cL_built 858 = .ok (.iload_n 3, 1) := by decide +kernel
theorem dL_built_859 : decode cL_built 859 = .ok (.invokevirtual 53, 3) := by decide +kernel
theorem dL_built_862 : decode cL_built 862 = .ok (.if_icmp .lt 92, 3) := by decide +kernel
theorem dL_built_865 : decode cL_built 865 = .ok (.aload_n 0, 1) := by decide +kernel
theorem dL_built_866 : decode cL_built 866 = .ok (.iconst 1, 1) := by decide +kernel
theorem dL_built_867 : decode cL_built 867 = .ok (.ldc2_w 160, 3) := by decide +kernel
theorem dL_built_870 : decode cL_built 870 = .ok (.bipush 100, 2) := by decide +kernel
theorem dL_built_872 : decode cL_built 872 = .ok (.iload_n 3, 1) := by decide +kernel
theorem dL_built_873 : decode cL_built 873 = .ok (.imul, 1) := by decide +kernel
theorem dL_built_874 : decode cL_built 874 = .ok (.i2l, 1) := by decide +kernel
theorem dL_built_875 : decode cL_built 875 = .ok (.ladd, 1) := by decide +kernel
theorem dL_built_876 : decode cL_built 876 = .ok (.iload 4, 2) := by decide +kernel
theorem dL_built_878 : decode cL_built 878 = .ok (.i2l, 1) := by decide +kernel
theorem dL_built_879 : decode cL_built 879 = .ok (.ladd, 1) := by decide +kernel
theorem dL_built_880 : decode cL_built 880 = .ok (.invokevirtual 97, 3) := by decide +kernel
theorem dL_built_883 : decode cL_built 883 = .ok (.bipush (-9), 2) := by decide +kernel
theorem dL_built_885 : decode cL_built 885 = .ok (.if_icmp .ne 69, 3) := by decide +kernel
theorem dL_built_888 : decode cL_built 888 = .ok (.aload_n 0, 1) := by decide +kernel
theorem dL_built_889 : decode cL_built 889 = .ok (.iconst 1, 1) := by decide +kernel
theorem dL_built_890 : decode cL_built 890 = .ok (.ldc2_w 162, 3) := by decide +kernel
theorem dL_built_893 : decode cL_built 893 = .ok (.bipush 100, 2) := by decide +kernel
theorem dL_built_895 : decode cL_built 895 = .ok (.iload_n 3, 1) := by decide +kernel
theorem dL_built_896 : decode cL_built 896 = .ok (.imul, 1) := by decide +kernel
theorem dL_built_897 : decode cL_built 897 = .ok (.i2l, 1) := by decide +kernel
theorem dL_built_898 : decode cL_built 898 = .ok (.ladd, 1) := by decide +kernel
theorem dL_built_899 : decode cL_built 899 = .ok (.aload_n 0, 1) := by decide +kernel
theorem dL_built_900 : decode cL_built 900 = .ok (.iload_n 3, 1) := by decide +kernel
theorem dL_built_901 : decode cL_built 901 = .ok (.invokevirtual 59, 3) := by decide +kernel
theorem dL_built_904 : decode cL_built 904 = .ok (.i2l, 1) := by decide +kernel
theorem dL_built_905 : decode cL_built 905 = .ok (.ladd, 1) := by decide +kernel
theorem dL_built_906 : decode cL_built 906 = .ok (.invokevirtual 97, 3) := by decide +kernel
theorem dL_built_909 : decode cL_built 909 = .ok (.bipush (-9), 2) := by decide +kernel
theorem dL_built_911 : decode cL_built 911 = .ok (.if_icmp .ne 43, 3) := by decide +kernel
theorem dL_built_914 : decode cL_built 914 = .ok (.iload 5, 2) := by decide +kernel
theorem dL_built_916 : decode cL_built 916 = .ok (.ifCond .eq 11, 3) := by decide +kernel
theorem dL_built_919 : decode cL_built 919 = .ok (.aload_n 0, 1) := by decide +kernel
theorem dL_built_920 : decode cL_built 920 = .ok (.iload_n 3, 1) := by decide +kernel
theorem dL_built_921 : decode cL_built 921 = .ok (.invokevirtual 80, 3) := by decide +kernel
theorem dL_built_924 : decode cL_built 924 = .ok (.ifCond .lt 30, 3) := by decide +kernel
theorem dL_built_927 : decode cL_built 927 = .ok (.iload 5, 2) := by decide +kernel
theorem dL_built_929 : decode cL_built 929 = .ok (.ifCond .gt 21, 3) := by decide +kernel
theorem dL_built_932 : decode cL_built 932 = .ok (.aload_n 0, 1) := by decide +kernel
theorem dL_built_933 : decode cL_built 933 = .ok (.iload_n 3, 1) := by decide +kernel
theorem dL_built_934 : decode cL_built 934 = .ok (.invokevirtual 80, 3) := by decide +kernel
theorem dL_built_937 : decode cL_built 937 = .ok (.bipush (-9), 2) := by decide +kernel
theorem dL_built_939 : decode cL_built 939 = .ok (.if_icmp .ne 15, 3) := by decide +kernel
theorem dL_built_942 : decode cL_built 942 = .ok (.aload_n 0, 1) := by decide +kernel
theorem dL_built_943 : decode cL_built 943 = .ok (.iload_n 3, 1) := by decide +kernel
theorem dL_built_944 : decode cL_built 944 = .ok (.invokevirtual 71, 3) := by decide +kernel
theorem dL_built_947 : decode cL_built 947 = .ok (.ifCond .ne 7, 3) := by decide +kernel
theorem dL_built_950 : decode cL_built 950 = .ok (.iconst 1, 1) := by decide +kernel
theorem dL_built_951 : decode cL_built 951 = .ok (.goto 4, 3) := by decide +kernel
theorem dL_built_954 : decode cL_built 954 = .ok (.iconst 0, 1) := by decide +kernel
theorem dL_built_955 : decode cL_built 955 = .ok (.ireturn, 1) := by decide +kernel
theorem dL_ahead_0 : decode cL_ahead 0 = .ok (.aload_n 0, 1) := by decide +kernel
theorem dL_ahead_1 : decode cL_ahead 1 = .ok (.invokestatic 147, 3) := by decide +kernel
theorem dL_ahead_4 : decode cL_ahead 4 = .ok (.lstore_n 2, 1) := by decide +kernel
theorem dL_ahead_5 : decode cL_ahead 5 = .ok (.aload_n 0, 1) := by decide +kernel
theorem dL_ahead_6 : decode cL_ahead 6 = .ok (.invokestatic 15, 3) := by decide +kernel
theorem dL_ahead_9 : decode cL_ahead 9 = .ok (.istore 4, 2) := by decide +kernel
theorem dL_ahead_11 : decode cL_ahead 11 = .ok (.aload_n 0, 1) := by decide +kernel
theorem dL_ahead_12 : decode cL_ahead 12 = .ok (.iconst 1, 1) := by decide +kernel
theorem dL_ahead_13 : decode cL_ahead 13 = .ok (.invokevirtual 107, 3) := by decide +kernel
theorem dL_ahead_16 : decode cL_ahead 16 = .ok (.istore 5, 2) := by decide +kernel
theorem dL_ahead_18 : decode cL_ahead 18 = .ok (.iload_n 1, 1) := by decide +kernel
theorem dL_ahead_19 : decode cL_ahead 19 = .ok (.iload 4, 2) := by decide +kernel
theorem dL_ahead_21 : decode cL_ahead 21 = .ok (.irem, 1) := by decide +kernel
theorem dL_ahead_22 : decode cL_ahead 22 = .ok (.istore 6, 2) := by decide +kernel
theorem dL_ahead_24 : decode cL_ahead 24 = .ok (.iload_n 1, 1) := by decide +kernel
theorem dL_ahead_25 : decode cL_ahead 25 = .ok (.bipush 12, 2) := by decide +kernel
theorem dL_ahead_27 : decode cL_ahead 27 = .ok (.idiv, 1) := by decide +kernel
theorem dL_ahead_28 : decode cL_ahead 28 = .ok (.iload 4, 2) := by decide +kernel
theorem dL_ahead_30 : decode cL_ahead 30 = .ok (.irem, 1) := by decide +kernel
theorem dL_ahead_31 : decode cL_ahead 31 = .ok (.istore 7, 2) := by decide +kernel
theorem dL_ahead_33 : decode cL_ahead 33 = .ok (.iconst 1, 1) := by decide +kernel
theorem dL_ahead_34 : decode cL_ahead 34 = .ok (.iload_n 1, 1) := by decide +kernel
theorem dL_ahead_35 : decode cL_ahead 35 = .ok (.sipush 144, 3) := by decide +kernel
theorem dL_ahead_38 : decode cL_ahead 38 = .ok (.idiv, 1) := by decide +kernel
theorem dL_ahead_39 : decode cL_ahead 39 = .ok (.bipush 99, 2) := by decide +kernel
theorem dL_ahead_41 : decode cL_ahead 41 = .ok (.irem, 1) := by decide +kernel
theorem dL_ahead_42 : decode cL_ahead 42 = .ok (.iadd, 1) := by decide +kernel
theorem dL_ahead_43 : decode cL_ahead 43 = .ok (.istore 8, 2) := by decide +kernel
theorem dL_ahead_45 : decode cL_ahead 45 = .ok (.iload 5, 2) := by decide +kernel
theorem dL_ahead_47 : decode cL_ahead 47 = .ok (.ifCond .lt 7, 3) := by decide +kernel
theorem dL_ahead_50 : decode cL_ahead 50 = .ok (.iconst 1, 1) := by decide +kernel
theorem dL_ahead_51 : decode cL_ahead 51 = .ok (.goto 4, 3) := by decide +kernel
theorem dL_ahead_54 : decode cL_ahead 54 = .ok (.iconst 0, 1) := by decide +kernel
theorem dL_ahead_55 : decode cL_ahead 55 = .ok (.istore 9, 2) := by decide +kernel
theorem dL_ahead_57 : decode cL_ahead 57 = .ok (.aload_n 0, 1) := by decide +kernel
theorem dL_ahead_58 : decode cL_ahead 58 = .ok (.iload 6, 2) := by decide +kernel
theorem dL_ahead_60 : decode cL_ahead 60 = .ok (.invokevirtual 28, 3) := by decide +kernel
theorem dL_ahead_63 : decode cL_ahead 63 = .ok (.aload_n 0, 1) := by decide +kernel
theorem dL_ahead_64 : decode cL_ahead 64 = .ok (.iload 7, 2) := by decide +kernel
theorem dL_ahead_66 : decode cL_ahead 66 = .ok (.invokevirtual 28, 3) := by decide +kernel
theorem dL_ahead_69 : decode cL_ahead 69 = .ok (.if_icmp .eq 155, 3) := by decide +kernel
theorem dL_ahead_72 : decode cL_ahead 72 = .ok (.iload 9, 2) := by decide +kernel
theorem dL_ahead_74 : decode cL_ahead 74 = .ok (.ifCond .eq 147, 3) := by decide +kernel
theorem dL_ahead_77 : decode cL_ahead 77 = .ok (.aload_n 0, 1) := by decide +kernel
theorem dL_ahead_78 : decode cL_ahead 78 = .ok (.iload 6, 2) := by decide +kernel
theorem dL_ahead_80 : decode cL_ahead 80 = .ok (.iload 7, 2) := by decide +kernel
theorem dL_ahead_82 : decode cL_ahead 82 = .ok (.iload 8, 2) := by decide +kernel
theorem dL_ahead_84 : decode cL_ahead 84 = .ok (.invokevirtual 31, 3) := by decide +kernel
theorem dL_ahead_87 : decode cL_ahead 87 = .ok (.iload 5, 2) := by decide +kernel
theorem dL_ahead_89 : decode cL_ahead 89 = .ok (.iconst 1, 1) := by decide +kernel
theorem dL_ahead_90 : decode cL_ahead 90 = .ok (.iadd, 1) := by decide +kernel
theorem dL_ahead_91 : decode cL_ahead 91 = .ok (.if_icmp .ne 130, 3) := by decide +kernel
theorem dL_ahead_94 : decode cL_ahead 94 = .ok (.aload_n 0, 1) := by decide +kernel
theorem dL_ahead_95 : decode cL_ahead 95 = .ok (.iload 6, 2) := by decide +kernel
theorem dL_ahead_97 : decode cL_ahead 97 = .ok (.iload 7, 2) := by decide +kernel
theorem dL_ahead_99 : decode cL_ahead 99 = .ok (.invokevirtual 44, 3) := by decide +kernel
theorem dL_ahead_102 : decode cL_ahead 102 = .ok (.iload 8, 2) := by decide +kernel
theorem dL_ahead_104 : decode cL_ahead 104 = .ok (.if_icmp .ne 117, 3) := by decide +kernel
theorem dL_ahead_107 : decode cL_ahead 107 = .ok (.aload_n 0, 1) := by decide +kernel
theorem dL_ahead_108 : decode cL_ahead 108 = .ok (.iload 6, 2) := by decide +kernel
theorem dL_ahead_110 : decode cL_ahead 110 = .ok (.invokevirtual 28, 3) := by decide +kernel
theorem dL_ahead_113 : decode cL_ahead 113 = .ok (.aload_n 0, 1) := by decide +kernel
theorem dL_ahead_114 : decode cL_ahead 114 = .ok (.iload 7, 2) := by decide +kernel
theorem dL_ahead_116 : decode cL_ahead 116 = .ok (.invokevirtual 28, 3) := by decide +kernel
theorem dL_ahead_119 : decode cL_ahead 119 = .ok (.if_icmp .ne 102, 3) := by decide +kernel
theorem dL_ahead_122 : decode cL_ahead 122 = .ok (.aload_n 0, 1) := by decide +kernel
theorem dL_ahead_123 : decode cL_ahead 123 = .ok (.iconst 2, 1) := by decide +kernel
theorem dL_ahead_124 : decode cL_ahead 124 = .ok (.ldc2_w 164, 3) := by decide +kernel
theorem dL_ahead_127 : decode cL_ahead 127 = .ok (.ldc2_w 101, 3) := by decide +kernel
theorem dL_ahead_130 : decode cL_ahead 130 = .ok (.bipush 100, 2) := by decide +kernel
theorem dL_ahead_132 : decode cL_ahead 132 = .ok (.iload 6, 2) := by decide +kernel
theorem dL_ahead_134 : decode cL_ahead 134 = .ok (.imul, 1) := by decide +kernel
theorem dL_ahead_135 : decode cL_ahead 135 = .ok (.iload 7, 2) := by decide +kernel
theorem dL_ahead_137 : decode cL_ahead 137 = .ok (.iadd, 1) := by decide +kernel
theorem dL_ahead_138 : decode cL_ahead 138 = .ok (.i2l, 1) := by decide +kernel
theorem dL_ahead_139 : decode cL_ahead 139 = .ok (.lmul, 1) := by decide +kernel
theorem dL_ahead_140 : decode cL_ahead 140 = .ok (.ladd, 1) := by decide +kernel
theorem dL_ahead_141 : decode cL_ahead 141 = .ok (.bipush 100, 2) := by decide +kernel
theorem dL_ahead_143 : decode cL_ahead 143 = .ok (.iload 6, 2) := by decide +kernel
theorem dL_ahead_145 : decode cL_ahead 145 = .ok (.imul, 1) := by decide +kernel
theorem dL_ahead_146 : decode cL_ahead 146 = .ok (.i2l, 1) := by decide +kernel
theorem dL_ahead_147 : decode cL_ahead 147 = .ok (.ladd, 1) := by decide +kernel
theorem dL_ahead_148 : decode cL_ahead 148 = .ok (.iload 7, 2) := by decide +kernel
theorem dL_ahead_150 : decode cL_ahead 150 = .ok (.i2l, 1) := by decide +kernel
theorem dL_ahead_151 : decode cL_ahead 151 = .ok (.ladd, 1) := by decide +kernel
theorem dL_ahead_152 : decode cL_ahead 152 = .ok (.invokevirtual 97, 3) := by decide +kernel
theorem dL_ahead_155 : decode cL_ahead 155 = .ok (.iconst 1, 1) := by decide +kernel
theorem dL_ahead_156 : decode cL_ahead 156 = .ok (.if_icmp .ne 65, 3) := by decide +kernel
theorem dL_ahead_159 : decode cL_ahead 159 = .ok (.aload_n 0, 1) := by decide +kernel
theorem dL_ahead_160 : decode cL_ahead 160 = .ok (.iload 7, 2) := by decide +kernel
theorem dL_ahead_162 : decode cL_ahead 162 = .ok (.iload 6, 2) := by decide +kernel
theorem dL_ahead_164 : decode cL_ahead 164 = .ok (.invokevirtual 35, 3) := by decide +kernel
theorem dL_ahead_167 : decode cL_ahead 167 = .ok (.iload 8, 2) := by decide +kernel
theorem dL_ahead_169 : decode cL_ahead 169 = .ok (.if_icmp .ne 52, 3) := by decide +kernel
theorem dL_ahead_172 : decode cL_ahead 172 = .ok (.aload_n 0, 1) := by decide +kernel
theorem dL_ahead_173 : decode cL_ahead 173 = .ok (.invokestatic 147, 3) := by decide +kernel
theorem dL_ahead_176 : decode cL_ahead 176 = .ok (.lload_n 2, 1) := by decide +kernel
theorem dL_ahead_177 : decode cL_ahead 177 = .ok (.lcmp, 1) := by decide +kernel
theorem dL_ahead_178 : decode cL_ahead 178 = .ok (.ifCond .ne 43, 3) := by decide +kernel
theorem dL_ahead_181 : decode cL_ahead 181 = .ok (.aload_n 0, 1) := by decide +kernel
theorem dL_ahead_182 : decode cL_ahead 182 = .ok (.invokevirtual 136, 3) := by decide +kernel
theorem dL_ahead_185 : decode cL_ahead 185 = .ok (.ifCond .lt 36, 3) := by decide +kernel
theorem dL_ahead_188 : decode cL_ahead 188 = .ok (.aload_n 0, 1) := by decide +kernel
theorem dL_ahead_189 : decode cL_ahead 189 = .ok (.iload 7, 2) := by decide +kernel
theorem dL_ahead_191 : decode cL_ahead 191 = .ok (.iload 6, 2) := by decide +kernel
theorem dL_ahead_193 : decode cL_ahead 193 = .ok (.invokevirtual 24, 3) := by decide +kernel
theorem dL_ahead_196 : decode cL_ahead 196 = .ok (.iload 8, 2) := by decide +kernel
theorem dL_ahead_198 : decode cL_ahead 198 = .ok (.if_icmp .ne 23, 3) := by decide +kernel
theorem dL_ahead_201 : decode cL_ahead 201 = .ok (.aload_n 0, 1) := by decide +kernel
theorem dL_ahead_202 : decode cL_ahead 202 = .ok (.invokevirtual 136, 3) := by decide +kernel
theorem dL_ahead_205 : decode cL_ahead 205 = .ok (.ifCond .lt 16, 3) := by decide +kernel
theorem dL_ahead_208 : decode cL_ahead 208 = .ok (.aload_n 0, 1) := by decide +kernel
theorem dL_ahead_209 : decode cL_ahead 209 = .ok (.invokestatic 147, 3) := by decide +kernel
theorem dL_ahead_212 : decode cL_ahead 212 = .ok (.lload_n 2, 1) := by decide +kernel
theorem dL_ahead_213 : decode cL_ahead 213 = .ok (.lcmp, 1) := by decide +kernel
theorem dL_ahead_214 : decode cL_ahead 214 = .ok (.ifCond .ne 7, 3) := by decide +kernel
theorem dL_ahead_217 : decode cL_ahead 217 = .ok (.iconst 1, 1) := by decide +kernel
theorem dL_ahead_218 : decode cL_ahead 218 = .ok (.goto 4, 3) := by decide +kernel
theorem dL_ahead_221 : decode cL_ahead 221 = .ok (.iconst 0, 1) := by decide +kernel
theorem dL_ahead_222 : decode cL_ahead 222 = .ok (.istore 9, 2) := by decide +kernel
theorem dL_ahead_224 : decode cL_ahead 224 = .ok (.iconst 0, 1) := by decide +kernel
theorem dL_ahead_225 : decode cL_ahead 225 = .ok (.istore 10, 2) := by decide +kernel
theorem dL_ahead_227 : decode cL_ahead 227 = .ok (.iload 10, 2) := by decide +kernel
theorem dL_ahead_229 : decode cL_ahead 229 = .ok (.iload 4, 2) := by decide +kernel
theorem dL_ahead_231 : decode cL_ahead 231 = .ok (.if_icmp .ge 166, 3) := by decide +kernel
theorem dL_ahead_234 : decode cL_ahead 234 = .ok (.iload 9, 2) := by decide +kernel
theorem dL_ahead_236 : decode cL_ahead 236 = .ok (.ifCond .eq 161, 3) := by decide +kernel
theorem dL_ahead_239 : decode cL_ahead 239 = .ok (.iconst 0, 1) := by decide +kernel
theorem dL_ahead_240 : decode cL_ahead 240 = .ok (.istore 11, 2) := by decide +kernel
theorem dL_ahead_242 : decode cL_ahead 242 = .ok (.iload 11, 2) := by decide +kernel
theorem dL_ahead_244 : decode cL_ahead 244 = .ok (.iload 10, 2) := by decide +kernel
theorem dL_ahead_246 : decode cL_ahead 246 = .ok (.if_icmp .ge 145, 3) := by decide +kernel
theorem dL_ahead_249 : decode cL_ahead 249 = .ok (.iload 9, 2) := by decide +kernel
theorem dL_ahead_251 : decode cL_ahead 251 = .ok (.ifCond .eq 140, 3) := by decide +kernel
theorem dL_ahead_254 : decode cL_ahead 254 = .ok (.aload_n 0, 1) := by decide +kernel
theorem dL_ahead_255 : decode cL_ahead 255 = .ok (.iload 10, 2) := by decide +kernel
theorem dL_ahead_257 : decode cL_ahead 257 = .ok (.iload 11, 2) := by decide +kernel
theorem dL_ahead_259 : decode cL_ahead 259 = .ok (.invokevirtual 24, 3) := by decide +kernel
theorem dL_ahead_262 : decode cL_ahead 262 = .ok (.istore 12, 2) := by decide +kernel
theorem dL_ahead_264 : decode cL_ahead 264 = .ok (.iload 12, 2) := by decide +kernel
theorem dL_ahead_266 : decode cL_ahead 266 = .ok (.ifCond .le 119, 3) := by decide +kernel
theorem dL_ahead_269 : decode cL_ahead 269 = .ok (.aload_n 0, 1) := by decide +kernel
theorem dL_ahead_270 : decode cL_ahead 270 = .ok (.iload 6, 2) := by decide +kernel
theorem dL_ahead_272 : decode cL_ahead 272 = .ok (.iload 7, 2) := by decide +kernel
theorem dL_ahead_274 : decode cL_ahead 274 = .ok (.invokevirtual 44, 3) := by decide +kernel
theorem dL_ahead_277 : decode cL_ahead 277 = .ok (.istore 13, 2) := by decide +kernel
theorem dL_ahead_279 : decode cL_ahead 279 = .ok (.aload_n 0, 1) := by decide +kernel
theorem dL_ahead_280 : decode cL_ahead 280 = .ok (.iload 10, 2) := by decide +kernel
theorem dL_ahead_282 : decode cL_ahead 282 = .ok (.iload 11, 2) := by decide +kernel
theorem dL_ahead_284 : decode cL_ahead 284 = .ok (.iload 8, 2) := by decide +kernel
theorem dL_ahead_286 : decode cL_ahead 286 = .ok (.invokevirtual 38, 3) := by decide +kernel
theorem dL_ahead_289 : decode cL_ahead 289 = .ok (.iload 12, 2) := by decide +kernel
theorem dL_ahead_291 : decode cL_ahead 291 = .ok (.if_icmp .ne 33, 3) := by decide +kernel
theorem dL_ahead_294 : decode cL_ahead 294 = .ok (.aload_n 0, 1) := by decide +kernel
theorem dL_ahead_295 : decode cL_ahead 295 = .ok (.iload 11, 2) := by decide +kernel
theorem dL_ahead_297 : decode cL_ahead 297 = .ok (.iload 10, 2) := by decide +kernel
theorem dL_ahead_299 : decode cL_ahead 299 = .ok (.invokevirtual 24, 3) := by decide +kernel
theorem dL_ahead_302 : decode cL_ahead 302 = .ok (.iload 8, 2) := by decide +kernel
theorem dL_ahead_304 : decode cL_ahead 304 = .ok (.if_icmp .ne 20, 3) := by decide +kernel
theorem dL_ahead_307 : decode cL_ahead 307 = .ok (.aload_n 0, 1) := by decide +kernel
theorem dL_ahead_308 : decode cL_ahead 308 = .ok (.iload 10, 2) := by decide +kernel
theorem dL_ahead_310 : decode cL_ahead 310 = .ok (.iload 11, 2) := by decide +kernel
theorem dL_ahead_312 : decode cL_ahead 312 = .ok (.invokevirtual 44, 3) := by decide +kernel
theorem dL_ahead_315 : decode cL_ahead 315 = .ok (.iload 8, 2) := by decide +kernel
theorem dL_ahead_317 : decode cL_ahead 317 = .ok (.if_icmp .ne 7, 3) := by decide +kernel
theorem dL_ahead_320 : decode cL_ahead 320 = .ok (.iconst 1, 1) := by decide +kernel
theorem dL_ahead_321 : decode cL_ahead 321 = .ok (.goto 4, 3) := by decide +kernel
theorem dL_ahead_324 : decode cL_ahead 324 = .ok (.iconst 0, 1) := by decide +kernel
theorem dL_ahead_325 : decode cL_ahead 325 = .ok (.istore 9, 2) := by decide +kernel
theorem dL_ahead_327 : decode cL_ahead 327 = .ok (.aload_n 0, 1) := by decide +kernel
theorem dL_ahead_328 : decode cL_ahead 328 = .ok (.iload 6, 2) := by decide +kernel
theorem dL_ahead_330 : decode cL_ahead 330 = .ok (.iload 7, 2) := by decide +kernel
theorem dL_ahead_332 : decode cL_ahead 332 = .ok (.invokevirtual 44, 3) := by decide +kernel
theorem dL_ahead_335 : decode cL_ahead 335 = .ok (.istore 14, 2) := by decide +kernel
theorem dL_ahead_337 : decode cL_ahead 337 = .ok (.iload 9, 2) := by decide +kernel
theorem dL_ahead_339 : decode cL_ahead 339 = .ok (.ifCond .eq 43, 3) := by decide +kernel
theorem dL_ahead_342 : decode cL_ahead 342 = .ok (.iload 14, 2) := by decide +kernel
theorem dL_ahead_344 : decode cL_ahead 344 = .ok (.iload 13, 2) := by decide +kernel
theorem dL_ahead_346 : decode cL_ahead 346 = .ok (.if_icmp .eq 16, 3) := by decide +kernel
theorem dL_ahead_349 : decode cL_ahead 349 = .ok (.iload 14, 2) := by decide +kernel
theorem dL_ahead_351 : decode cL_ahead 351 = .ok (.iload 13, 2) := by decide +kernel
theorem dL_ahead_353 : decode cL_ahead 353 = .ok (.isub, 1) := by decide +kernel
theorem dL_ahead_354 : decode cL_ahead 354 = .ok (.iload 8, 2) := by decide +kernel
theorem dL_ahead_356 : decode cL_ahead 356 = .ok (.iload 12, 2) := by decide +kernel
theorem dL_ahead_358 : decode cL_ahead 358 = .ok (.isub, 1) := by decide +kernel
theorem dL_ahead_359 : decode cL_ahead 359 = .ok (.if_icmp .ne 23, 3) := by decide +kernel
theorem dL_ahead_362 : decode cL_ahead 362 = .ok (.aload_n 0, 1) := by decide +kernel
theorem dL_ahead_363 : decode cL_ahead 363 = .ok (.invokevirtual 136, 3) := by decide +kernel
theorem dL_ahead_366 : decode cL_ahead 366 = .ok (.ifCond .lt 16, 3) := by decide +kernel
theorem dL_ahead_369 : decode cL_ahead 369 = .ok (.aload_n 0, 1) := by decide +kernel
theorem dL_ahead_370 : decode cL_ahead 370 = .ok (.invokestatic 147, 3) := by decide +kernel
theorem dL_ahead_373 : decode cL_ahead 373 = .ok (.lload_n 2, 1) := by decide +kernel
theorem dL_ahead_374 : decode cL_ahead 374 = .ok (.lcmp, 1) := by decide +kernel
theorem dL_ahead_375 : decode cL_ahead 375 = .ok (.ifCond .ne 7, 3) := by decide +kernel
theorem dL_ahead_378 : decode cL_ahead 378 = .ok (.iconst 1, 1) := by decide +kernel
theorem dL_ahead_379 : decode cL_ahead 379 = .ok (.goto 4, 3) := by decide +kernel
theorem dL_ahead_382 : decode cL_ahead 382 = .ok (.iconst 0, 1) := by decide +kernel
theorem dL_ahead_383 : decode cL_ahead 383 = .ok (.istore 9, 2) := by decide +kernel
theorem dL_ahead_385 : decode cL_ahead 385 = .ok (.iinc 11 1, 3) := by decide +kernel
theorem dL_ahead_388 : decode cL_ahead 388 = .ok (.goto (-146), 3) := by decide +kernel
theorem dL_ahead_391 : decode cL_ahead 391 = .ok (.iinc 10 1, 3) := by decide +kernel
theorem dL_ahead_394 : decode cL_ahead 394 = .ok (.goto (-167), 3) := by decide +kernel
theorem dL_ahead_397 : decode cL_ahead 397 = .ok (.aload_n 0, 1) := by decide +kernel
theorem dL_ahead_398 : decode cL_ahead 398 = .ok (.iload 6, 2) := by decide +kernel
theorem dL_ahead_400 : decode cL_ahead 400 = .ok (.invokevirtual 9, 3) := by decide +kernel
theorem dL_ahead_403 : decode cL_ahead 403 = .ok (.istore 10, 2) := by decide +kernel
theorem dL_ahead_405 : decode cL_ahead 405 = .ok (.iload 9, 2) := by decide +kernel
theorem dL_ahead_407 : decode cL_ahead 407 = .ok (.ifCond .eq 47, 3) := by decide +kernel
theorem dL_ahead_410 : decode cL_ahead 410 = .ok (.aload_n 0, 1) := by decide +kernel
theorem dL_ahead_411 : decode cL_ahead 411 = .ok (.iload 6, 2) := by decide +kernel
theorem dL_ahead_413 : decode cL_ahead 413 = .ok (.iload 8, 2) := by decide +kernel
theorem dL_ahead_415 : decode cL_ahead 415 = .ok (.invokevirtual 41, 3) := by decide +kernel
theorem dL_ahead_418 : decode cL_ahead 418 = .ok (.iload 10, 2) := by decide +kernel
theorem dL_ahead_420 : decode cL_ahead 420 = .ok (.if_icmp .ne 34, 3) := by decide +kernel
theorem dL_ahead_423 : decode cL_ahead 423 = .ok (.aload_n 0, 1) := by decide +kernel
theorem dL_ahead_424 : decode cL_ahead 424 = .ok (.iload 6, 2) := by decide +kernel
theorem dL_ahead_426 : decode cL_ahead 426 = .ok (.invokevirtual 9, 3) := by decide +kernel
theorem dL_ahead_429 : decode cL_ahead 429 = .ok (.iload 8, 2) := by decide +kernel
theorem dL_ahead_431 : decode cL_ahead 431 = .ok (.if_icmp .ne 23, 3) := by decide +kernel
theorem dL_ahead_434 : decode cL_ahead 434 = .ok (.aload_n 0, 1) := by decide +kernel
theorem dL_ahead_435 : decode cL_ahead 435 = .ok (.invokevirtual 136, 3) := by decide +kernel
theorem dL_ahead_438 : decode cL_ahead 438 = .ok (.ifCond .lt 16, 3) := by decide +kernel
theorem dL_ahead_441 : decode cL_ahead 441 = .ok (.aload_n 0, 1) := by decide +kernel
theorem dL_ahead_442 : decode cL_ahead 442 = .ok (.invokestatic 147, 3) := by decide +kernel
theorem dL_ahead_445 : decode cL_ahead 445 = .ok (.lload_n 2, 1) := by decide +kernel
theorem dL_ahead_446 : decode cL_ahead 446 = .ok (.lcmp, 1) := by decide +kernel
theorem dL_ahead_447 : decode cL_ahead 447 = .ok (.ifCond .ne 7, 3) := by decide +kernel
theorem dL_ahead_450 : decode cL_ahead 450 = .ok (.iconst 1, 1) := by decide +kernel
theorem dL_ahead_451 : decode cL_ahead 451 = .ok (.goto 4, 3) := by decide +kernel
theorem dL_ahead_454 : decode cL_ahead 454 = .ok (.iconst 0, 1) := by decide +kernel
theorem dL_ahead_455 : decode cL_ahead 455 = .ok (.istore 9, 2) := by decide +kernel
theorem dL_ahead_457 : decode cL_ahead 457 = .ok (.iload 9, 2) := by decide +kernel
theorem dL_ahead_459 : decode cL_ahead 459 = .ok (.ifCond .eq 35, 3) := by decide +kernel
theorem dL_ahead_462 : decode cL_ahead 462 = .ok (.aload_n 0, 1) := by decide +kernel
theorem dL_ahead_463 : decode cL_ahead 463 = .ok (.iconst 1, 1) := by decide +kernel
theorem dL_ahead_464 : decode cL_ahead 464 = .ok (.invokevirtual 110, 3) := by decide +kernel
theorem dL_ahead_467 : decode cL_ahead 467 = .ok (.iload 5, 2) := by decide +kernel
theorem dL_ahead_469 : decode cL_ahead 469 = .ok (.if_icmp .ne 25, 3) := by decide +kernel
theorem dL_ahead_472 : decode cL_ahead 472 = .ok (.aload_n 0, 1) := by decide +kernel
theorem dL_ahead_473 : decode cL_ahead 473 = .ok (.invokestatic 147, 3) := by decide +kernel
theorem dL_ahead_476 : decode cL_ahead 476 = .ok (.lload_n 2, 1) := by decide +kernel
theorem dL_ahead_477 : decode cL_ahead 477 = .ok (.lcmp, 1) := by decide +kernel
theorem dL_ahead_478 : decode cL_ahead 478 = .ok (.ifCond .ne 16, 3) := by decide +kernel
theorem dL_ahead_481 : decode cL_ahead 481 = .ok (.aload_n 0, 1) := by decide +kernel
theorem dL_ahead_482 : decode cL_ahead 482 = .ok (.invokevirtual 136, 3) := by decide +kernel
theorem dL_ahead_485 : decode cL_ahead 485 = .ok (.bipush (-3), 2) := by decide +kernel
theorem dL_ahead_487 : decode cL_ahead 487 = .ok (.if_icmp .ne 7, 3) := by decide +kernel
theorem dL_ahead_490 : decode cL_ahead 490 = .ok (.iconst 1, 1) := by decide +kernel
theorem dL_ahead_491 : decode cL_ahead 491 = .ok (.goto 4, 3) := by decide +kernel
theorem dL_ahead_494 : decode cL_ahead 494 = .ok (.iconst 0, 1) := by decide +kernel
theorem dL_ahead_495 : decode cL_ahead 495 = .ok (.ireturn, 1) := by decide +kernel
theorem dL_law_0 : decode cL_law 0 = .ok (.new 10, 3) := by decide +kernel
theorem dL_law_3 : decode cL_law 3 = .ok (.dup, 1) := by decide +kernel
theorem dL_law_4 : decode cL_law 4 = .ok (.invokespecial 166, 3) := by decide +kernel
theorem dL_law_7 : decode cL_law 7 = .ok (.astore_n 1, 1) := by decide +kernel
theorem dL_law_8 : decode cL_law 8 = .ok (.new 10, 3) := by decide +kernel
theorem dL_law_11 : decode cL_law 11 = .ok (.dup, 1) := by decide +kernel
theorem dL_law_12 : decode cL_law 12 = .ok (.invokespecial 166, 3) := by decide +kernel
theorem dL_law_15 : decode cL_law 15 = .ok (.astore_n 2, 1) := by decide +kernel
theorem dL_law_16 : decode cL_law 16 = .ok (.aload_n 2, 1) := by decide +kernel
theorem dL_law_17 : decode cL_law 17 = .ok (.invokestatic 167, 3) := by decide +kernel
theorem dL_law_20 : decode cL_law 20 = .ok (.istore_n 3, 1) := by decide +kernel
theorem dL_law_21 : decode cL_law 21 = .ok (.iconst 0, 1) := by decide +kernel
theorem dL_law_22 : decode cL_law 22 = .ok (.istore 4, 2) := by decide +kernel
theorem dL_law_24 : decode cL_law 24 = .ok (.iload 4, 2) := by decide +kernel
theorem dL_law_26 : decode cL_law 26 = .ok (.bipush 7, 2) := by decide +kernel
theorem dL_law_28 : decode cL_law 28 = .ok (.if_icmp .ge 110, 3) := by decide +kernel
theorem dL_law_31 : decode cL_law 31 = .ok (.iload_n 3, 1) := by decide +kernel
theorem dL_law_32 : decode cL_law 32 = .ok (.ifCond .eq 106, 3) := by decide +kernel
theorem dL_law_35 : decode cL_law 35 = .ok (.aload_n 0, 1) := by decide +kernel
theorem dL_law_36 : decode cL_law 36 = .ok (.iconst 2, 1) := by decide +kernel
theorem dL_law_37 : decode cL_law 37 = .ok (.iload 4, 2) := by decide +kernel
theorem dL_law_39 : decode cL_law 39 = .ok (.imul, 1) := by decide +kernel
theorem dL_law_40 : decode cL_law 40 = .ok (.invokestatic 171, 3) := by decide +kernel
theorem dL_law_43 : decode cL_law 43 = .ok (.istore 5, 2) := by decide +kernel
theorem dL_law_45 : decode cL_law 45 = .ok (.aload_n 0, 1) := by decide +kernel
theorem dL_law_46 : decode cL_law 46 = .ok (.iconst 2, 1) := by decide +kernel
theorem dL_law_47 : decode cL_law 47 = .ok (.iload 4, 2) := by decide +kernel
theorem dL_law_49 : decode cL_law 49 = .ok (.imul, 1) := by decide +kernel
theorem dL_law_50 : decode cL_law 50 = .ok (.iconst 1, 1) := by decide +kernel
theorem dL_law_51 : decode cL_law 51 = .ok (.iadd, 1) := by decide +kernel
theorem dL_law_52 : decode cL_law 52 = .ok (.invokestatic 171, 3) := by decide +kernel
theorem dL_law_55 : decode cL_law 55 = .ok (.istore 6, 2) := by decide +kernel
theorem dL_law_57 : decode cL_law 57 = .ok (.aload_n 1, 1) := by decide +kernel
theorem dL_law_58 : decode cL_law 58 = .ok (.iload 5, 2) := by decide +kernel
theorem dL_law_60 : decode cL_law 60 = .ok (.iload 6, 2) := by decide +kernel
theorem dL_law_62 : decode cL_law 62 = .ok (.invokestatic 175, 3) := by decide +kernel
theorem dL_law_65 : decode cL_law 65 = .ok (.aload_n 2, 1) := by decide +kernel
theorem dL_law_66 : decode cL_law 66 = .ok (.iload 5, 2) := by decide +kernel
theorem dL_law_68 : decode cL_law 68 = .ok (.iload 6, 2) := by decide +kernel
theorem dL_law_70 : decode cL_law 70 = .ok (.invokestatic 175, 3) := by decide +kernel
theorem dL_law_73 : decode cL_law 73 = .ok (.if_icmp .ne 57, 3) := by decide +kernel
theorem dL_law_76 : decode cL_law 76 = .ok (.aload_n 2, 1) := by decide +kernel
theorem dL_law_77 : decode cL_law 77 = .ok (.invokestatic 167, 3) := by decide +kernel
theorem dL_law_80 : decode cL_law 80 = .ok (.ifCond .eq 50, 3) := by decide +kernel
theorem dL_law_83 : decode cL_law 83 = .ok (.aload_n 1, 1) := by decide +kernel
theorem dL_law_84 : decode cL_law 84 = .ok (.aload_n 2, 1) := by decide +kernel
theorem dL_law_85 : decode cL_law 85 = .ok (.invokestatic 178, 3) := by decide +kernel
theorem dL_law_88 : decode cL_law 88 = .ok (.ifCond .eq 42, 3) := by decide +kernel
theorem dL_law_91 : decode cL_law 91 = .ok (.aload_n 1, 1) := by decide +kernel
theorem dL_law_92 : decode cL_law 92 = .ok (.iload 6, 2) := by decide +kernel
theorem dL_law_94 : decode cL_law 94 = .ok (.invokestatic 182, 3) := by decide +kernel
theorem dL_law_97 : decode cL_law 97 = .ok (.ifCond .eq 33, 3) := by decide +kernel
theorem dL_law_100 : decode cL_law 100 = .ok (.aload_n 1, 1) := by decide +kernel
theorem dL_law_101 : decode cL_law 101 = .ok (.iload 6, 2) := by decide +kernel
theorem dL_law_103 : decode cL_law 103 = .ok (.invokestatic 186, 3) := by decide +kernel
theorem dL_law_106 : decode cL_law 106 = .ok (.ifCond .eq 24, 3) := by decide +kernel
theorem dL_law_109 : decode cL_law 109 = .ok (.aload_n 2, 1) := by decide +kernel
theorem dL_law_110 : decode cL_law 110 = .ok (.iload 6, 2) := by decide +kernel
theorem dL_law_112 : decode cL_law 112 = .ok (.invokestatic 186, 3) := by decide +kernel
theorem dL_law_115 : decode cL_law 115 = .ok (.ifCond .eq 15, 3) := by decide +kernel
theorem dL_law_118 : decode cL_law 118 = .ok (.aload_n 1, 1) := by decide +kernel
theorem dL_law_119 : decode cL_law 119 = .ok (.aload_n 2, 1) := by decide +kernel
theorem dL_law_120 : decode cL_law 120 = .ok (.invokestatic 178, 3) := by decide +kernel
theorem dL_law_123 : decode cL_law 123 = .ok (.ifCond .eq 7, 3) := by decide +kernel
theorem dL_law_126 : decode cL_law 126 = .ok (.iconst 1, 1) := by decide +kernel
theorem dL_law_127 : decode cL_law 127 = .ok (.goto 4, 3) := by decide +kernel
theorem dL_law_130 : decode cL_law 130 = .ok (.iconst 0, 1) := by decide +kernel
theorem dL_law_131 : decode cL_law 131 = .ok (.istore_n 3, 1) := by decide +kernel
theorem dL_law_132 : decode cL_law 132 = .ok (.iinc 4 1, 3) := by decide +kernel
theorem dL_law_135 : decode cL_law 135 = .ok (.goto (-111), 3) := by decide +kernel
theorem dL_law_138 : decode cL_law 138 = .ok (.iload_n 3, 1) := by decide +kernel
theorem dL_law_139 : decode cL_law 139 = .ok (.ireturn, 1) := by decide +kernel
end
section
theorem dJ0_charAt_5068e_0 : decode cJ0_charAt_5068e 0 = .ok (.aload_n 0, 1) := by decide +kernel
theorem dJ0_charAt_5068e_1 : decode cJ0_charAt_5068e 1 = .ok (.invokevirtual 492, 3) := by decide +kernel
theorem dJ0_charAt_5068e_4 : decode cJ0_charAt_5068e 4 = .ok (.ifCond .eq 12, 3) := by decide +kernel
theorem dJ0_charAt_5068e_7 : decode cJ0_charAt_5068e 7 = .ok (.aload_n 0, 1) := by decide +kernel
theorem dJ0_charAt_5068e_8 : decode cJ0_charAt_5068e 8 = .ok (.getfield 9, 3) := by decide +kernel
theorem dJ0_charAt_5068e_11 : decode cJ0_charAt_5068e 11 = .ok (.iload_n 1, 1) := by decide +kernel
theorem dJ0_charAt_5068e_12 : decode cJ0_charAt_5068e 12 = .ok (.invokestatic 495, 3) := by decide +kernel
theorem dJ0_charAt_5068e_15 : decode cJ0_charAt_5068e 15 = .ok (.ireturn, 1) := by decide +kernel
theorem dJ0_charAt_5068e_16 : decode cJ0_charAt_5068e 16 = .ok (.aload_n 0, 1) := by decide +kernel
theorem dJ0_charAt_5068e_17 : decode cJ0_charAt_5068e 17 = .ok (.getfield 9, 3) := by decide +kernel
theorem dJ0_charAt_5068e_20 : decode cJ0_charAt_5068e 20 = .ok (.iload_n 1, 1) := by decide +kernel
theorem dJ0_charAt_5068e_21 : decode cJ0_charAt_5068e 21 = .ok (.invokestatic 498, 3) := by decide +kernel
theorem dJ0_charAt_5068e_24 : decode cJ0_charAt_5068e 24 = .ok (.ireturn, 1) := by decide +kernel
theorem dJ0_isLatin1_aae02_0 : decode cJ0_isLatin1_aae02 0 = .ok (.getstatic 38, 3) := by decide +kernel
theorem dJ0_isLatin1_aae02_3 : decode cJ0_isLatin1_aae02 3 = .ok (.ifCond .eq 14, 3) := by decide +kernel
theorem dJ0_isLatin1_aae02_6 : decode cJ0_isLatin1_aae02 6 = .ok (.aload_n 0, 1) := by decide +kernel
theorem dJ0_isLatin1_aae02_7 : decode cJ0_isLatin1_aae02 7 = .ok (.getfield 15, 3) := by decide +kernel
theorem dJ0_isLatin1_aae02_10 : decode cJ0_isLatin1_aae02 10 = .ok (.ifCond .ne 7, 3) := by decide +kernel
theorem dJ0_isLatin1_aae02_13 : decode cJ0_isLatin1_aae02 13 = .ok (.iconst 1, 1) := by decide +kernel
theorem dJ0_isLatin1_aae02_14 : decode cJ0_isLatin1_aae02 14 = .ok (.goto 4, 3) := by decide +kernel
theorem dJ0_isLatin1_aae02_17 : decode cJ0_isLatin1_aae02 17 = .ok (.iconst 0, 1) := by decide +kernel
theorem dJ0_isLatin1_aae02_18 : decode cJ0_isLatin1_aae02 18 = .ok (.ireturn, 1) := by decide +kernel
theorem dJ0_checkIndex_df160_0 : decode cJ0_checkIndex_df160 0 = .ok (.iload_n 0, 1) := by decide +kernel
theorem dJ0_checkIndex_df160_1 : decode cJ0_checkIndex_df160 1 = .ok (.iload_n 1, 1) := by decide +kernel
theorem dJ0_checkIndex_df160_2 : decode cJ0_checkIndex_df160 2 = .ok (.getstatic 1053, 3) := by decide +kernel
theorem dJ0_checkIndex_df160_5 : decode cJ0_checkIndex_df160 5 = .ok (.invokestatic 1059, 3) := by decide +kernel
theorem dJ0_checkIndex_df160_8 : decode cJ0_checkIndex_df160 8 = .ok (.pop, 1) := by decide +kernel
theorem dJ0_checkIndex_df160_9 : decode cJ0_checkIndex_df160 9 = .ok (.return_, 1) := by decide +kernel
theorem dJ1_charAt_3b067_0 : decode cJ1_charAt_3b067 0 = .ok (.iload_n 1, 1) := by decide +kernel
theorem dJ1_charAt_3b067_1 : decode cJ1_charAt_3b067 1 = .ok (.aload_n 0, 1) := by decide +kernel
theorem dJ1_charAt_3b067_2 : decode cJ1_charAt_3b067 2 = .ok (.arraylength, 1) := by decide +kernel
theorem dJ1_charAt_3b067_3 : decode cJ1_charAt_3b067 3 = .ok (.invokestatic 9, 3) := by decide +kernel
theorem dJ1_charAt_3b067_6 : decode cJ1_charAt_3b067 6 = .ok (.aload_n 0, 1) := by decide +kernel
theorem dJ1_charAt_3b067_7 : decode cJ1_charAt_3b067 7 = .ok (.iload_n 1, 1) := by decide +kernel
theorem dJ1_charAt_3b067_8 : decode cJ1_charAt_3b067 8 = .ok (.baload, 1) := by decide +kernel
theorem dJ1_charAt_3b067_9 : decode cJ1_charAt_3b067 9 = .ok (.sipush 255, 3) := by decide +kernel
theorem dJ1_charAt_3b067_12 : decode cJ1_charAt_3b067 12 = .ok (.iand, 1) := by decide +kernel
theorem dJ1_charAt_3b067_13 : decode cJ1_charAt_3b067 13 = .ok (.i2c, 1) := by decide +kernel
theorem dJ1_charAt_3b067_14 : decode cJ1_charAt_3b067 14 = .ok (.ireturn, 1) := by decide +kernel
theorem dJ3_checkIndex_8e157_0 : decode cJ3_checkIndex_8e157 0 = .ok (.iload_n 0, 1) := by decide +kernel
theorem dJ3_checkIndex_8e157_1 : decode cJ3_checkIndex_8e157 1 = .ok (.ifCond .lt 8, 3) := by decide +kernel
theorem dJ3_checkIndex_8e157_4 : decode cJ3_checkIndex_8e157 4 = .ok (.iload_n 0, 1) := by decide +kernel
theorem dJ3_checkIndex_8e157_5 : decode cJ3_checkIndex_8e157 5 = .ok (.iload_n 1, 1) := by decide +kernel
theorem dJ3_checkIndex_8e157_6 : decode cJ3_checkIndex_8e157 6 = .ok (.if_icmp .lt 10, 3) := by decide +kernel
theorem dJ3_checkIndex_8e157_9 : decode cJ3_checkIndex_8e157 9 = .ok (.aload_n 2, 1) := by decide +kernel
theorem dJ3_checkIndex_8e157_10 : decode cJ3_checkIndex_8e157 10 = .ok (.iload_n 0, 1) := by decide +kernel
theorem dJ3_checkIndex_8e157_11 : decode cJ3_checkIndex_8e157 11 = .ok (.iload_n 1, 1) := by decide +kernel
theorem dJ3_checkIndex_8e157_12 : decode cJ3_checkIndex_8e157 12 = .ok (.invokestatic 95, 3) := by decide +kernel
theorem dJ3_checkIndex_8e157_15 : decode cJ3_checkIndex_8e157 15 = .ok (.athrow, 1) := by decide +kernel
theorem dJ3_checkIndex_8e157_16 : decode cJ3_checkIndex_8e157 16 = .ok (.iload_n 0, 1) := by decide +kernel
theorem dJ3_checkIndex_8e157_17 : decode cJ3_checkIndex_8e157 17 = .ok (.ireturn, 1) := by decide +kernel
end
section
/-! THE BASE: all cells of the run as one numbered row of cells; a memory of ints over a fixed shape; one judgement Xg with a rule an instruction -/
def TB : List Cond := lw_tbl.filter goodWord
theorem TB_in {w : Cond} (i : Nat) (h : lw_tbl[i]? = some w) (g : goodWord w = true) : w ∈ TB := List.mem_filter.mpr ⟨List.mem_of_getElem? h, g⟩
theorem TB_good {w : Cond} (h : w ∈ TB) : (w.onTables && w.keeps) = true ∨ ∃ ty, w = .arrayClass ty := good_of_word (List.mem_filter.mp h).2
theorem TB_tbl {w : Cond} (h : w ∈ TB) : w ∈ lw_tbl := (List.mem_filter.mp h).1
/-- a method: its name, code, locals, what it returns, its room -/
abbrev MTy : Type := MethodName × ByteArray × Nat × Option FieldType × Room
abbrev Mem : Type := Nat → Nat → Int32
abbrev Lv : Type := List (Nat × Value)
/-- the numbered cells: the class numbers, the four array kinds, how many cells, their addresses, cells of another content -/
abbrev Gx : Type := va_G × (ClassId × ClassId × ClassId × ClassId) × Nat × (Nat → Nat) × (Nat → Option va_E)
abbrev gD (G : Gx) : va_G := G.1
abbrev gC (G : Gx) : ClassId × ClassId × ClassId × ClassId := G.2.1
abbrev gK (G : Gx) : Nat := G.2.2.1
abbrev gA (G : Gx) : Nat → Nat := G.2.2.2.1
abbrev gO (G : Gx) : Nat → Option va_E := G.2.2.2.2
abbrev T4 (cs : ClassId × ClassId × ClassId × ClassId) : List (ClassId × FieldType) := [(cs.1, .int), (cs.2.1, .boolean), (cs.2.2.1, .object RX1), (cs.2.2.2, .array .int)]
def wd (K : Nat) (ad : Nat → Nat) (ct : Nat → va_E) : va_W := (List.range K).map (fun i => (ad i, ct i))
theorem wd_at {K : Nat} {ad : Nat → Nat} {ct : Nat → va_E} {j : Nat} (h : j < K) : (wd K ad ct)[j]? = some (ad j, ct j) := by
  simp [wd, h]
theorem wd_len {K : Nat} {ad : Nat → Nat} {ct : Nat → va_E} : (wd K ad ct).length = K := by simp [wd]
theorem wd_mem {K : Nat} {ad : Nat → Nat} {ct : Nat → va_E} {k : Nat} {q : Nat × va_E} (h : (wd K ad ct)[k]? = some q) : k < K ∧ q = (ad k, ct k) := by
  have hk : k < K := by have := (List.getElem?_eq_some_iff.mp h).1; rwa [wd_len] at this
  rw [wd_at hk] at h
  exact ⟨hk, (Option.some.inj h).symm⟩
theorem wd_set {K : Nat} {ad : Nat → Nat} {ct ct' : Nat → va_E} {j : Nat} {e : va_E} (h : j < K) (he : ct' j = e) (ho : ∀ i, i ≠ j → ct' i = ct i) : (wd K ad ct).set j (ad j, e) = wd K ad ct' := by
  apply List.ext_getElem?
  intro i
  by_cases hij : i = j
  · subst hij
    rw [List.getElem?_set_self (by rw [wd_len]; exact h), wd_at h, he]
  · rw [List.getElem?_set_ne (Ne.symm hij)]
    by_cases hi : i < K
    · rw [wd_at hi, wd_at hi, ho i hij]
    · rw [List.getElem?_eq_none (by rw [wd_len]; omega), List.getElem?_eq_none (by rw [wd_len]; omega)]
theorem wd_congr {K : Nat} {ad ad' : Nat → Nat} {ct ct' : Nat → va_E} (h : ∀ i, i < K → ct i = ct' i) (h2 : ∀ i, i < K → ad i = ad' i) : wd K ad ct = wd K ad' ct' := by
  unfold wd
  apply List.map_congr_left
  intro i hi
  rw [h i (List.mem_range.mp hi), h2 i (List.mem_range.mp hi)]
theorem wd_push {K : Nat} {ad : Nat → Nat} {ct : Nat → va_E} : wd (K + 1) ad ct = wd K ad ct ++ [(ad K, ct K)] := by
  simp [wd, List.range_succ]
/-! the shape -/
def rI (cs : ClassId × ClassId × ClassId × ClassId) (n : Nat) (r : Nat → Int32) : va_E := .inl (cs.1, n, .inl r)
def rZ (cs : ClassId × ClassId × ClassId × ClassId) (n : Nat) (r : Nat → Int32) : va_E := .inl (cs.2.1, n, .inl r)
def rF (cs : ClassId × ClassId × ClassId × ClassId) (n : Nat) (f : Nat → Option Nat) : va_E := .inl (cs.2.2.1, n, .inr (.inr (.inr (.inr f))))
def rR (cs : ClassId × ClassId × ClassId × ClassId) (n : Nat) (f : Nat → Option Nat) : va_E := .inl (cs.2.2.2, n, .inr (.inr (.inr (.inr f))))
/-- a forest's fifteen cells, from b on -/
def cF (cs : ClassId × ClassId × ClassId × ClassId) (ad : Nat → Nat) (b i : Nat) (r : Nat → Int32) : va_E :=
  if i = 0 then .inr (1, [.int (r 0), .ref (ad (b + 1)), .ref (ad (b + 2))]) else if i = 2 then rR cs 12 (fun k => if k < 12 then some (ad (b + 3 + k)) else none) else rI cs 12 r
/-- a survey's fourteen cells -/
def cS (cs : ClassId × ClassId × ClassId × ClassId) (ad : Nat → Nat) (f b i : Nat) (r : Nat → Int32) : va_E :=
  if i = 0 then .inr (5, [.ref (ad f), .int (r 1), .ref (ad (b + 1))]) else if i = 1 then rR cs 12 (fun k => if k < 12 then some (ad (b + 2 + k)) else none) else rI cs 12 r
def cC (cs : ClassId × ClassId × ClassId × ClassId) (ad : Nat → Nat) (j : Nat) (r : Nat → Int32) : va_E :=
  if j = 59 then .inr (0, [.int (r 0), .int (r 1), .int (r 2), .ref (ad 60), .ref (ad 61), .ref (ad 62), .ref (ad 63)]) else if j = 60 then rZ cs 12 r else if j = 61 then rZ cs 12 r else if j = 63 then rR cs 12 (fun k => if k < 12 then some (ad (64 + k)) else none) else rI cs 12 r
def cT (cs : ClassId × ClassId × ClassId × ClassId) (ad : Nat → Nat) (j : Nat) (r : Nat → Int32) : va_E :=
  if j = 76 then .inr (4, [.int (r 0), .ref (ad 77), .int (r 2), .ref (ad 78)]) else if j = 77 then rI cs 80 r else if j = 78 then rI cs 12 r else if j = 79 then .inr (2, [.ref (ad 80), .int (r 1), .int (r 2)]) else rF cs 14 (fun k => if k < 14 then some (ad (81 + 15 * k)) else none)
def cO (cs : ClassId × ClassId × ClassId × ClassId) (ad : Nat → Nat) (j : Nat) (r : Nat → Int32) : va_E :=
  if j = 291 then .inr (3, [.ref (ad 292), .ref (ad 293), .ref (ad 294), .int (r 3), .int (r 4)]) else if j = 295 then rF cs 2 (fun k => if k < 2 then some (ad (296 + 15 * k)) else none) else rI cs 6 r
/-- what an object's cell of number j is, with the ints r -/
def cell0 (cs : ClassId × ClassId × ClassId × ClassId) (ad : Nat → Nat) (j : Nat) (r : Nat → Int32) : va_E :=
  if j = 0 then .inr (6, [.ref (ad 1), .ref (ad 16), .ref (ad 30), .ref (ad 45), .ref (ad 59), .ref (ad 76), .ref (ad 79), .ref (ad 291), .ref (ad 295), .ref (ad 326)])
  else if j < 16 then cF cs ad 1 (j - 1) r else if j < 30 then cS cs ad 1 16 (j - 16) r else if j < 45 then cF cs ad 30 (j - 30) r else if j < 59 then cS cs ad 30 45 (j - 45) r
  else if j < 76 then cC cs ad j r else if j < 81 then cT cs ad j r else if j < 291 then cF cs ad (81 + 15 * ((j - 81) / 15)) ((j - 81) % 15) r else if j < 296 then cO cs ad j r
  else if j < 326 then cF cs ad (296 + 15 * ((j - 296) / 15)) ((j - 296) % 15) r else rZ cs 2 r
/-- what the cell of number j is, of two objects behind each other, with the ints r -/
def cellAt (cs : ClassId × ClassId × ClassId × ClassId) (ad : Nat → Nat) (j : Nat) (r : Nat → Int32) : va_E :=
  if j = 0 then .inr (6, [.ref (ad 1), .ref (ad 16), .ref (ad 30), .ref (ad 45), .ref (ad 59), .ref (ad 76), .ref (ad 79), .ref (ad 291), .ref (ad 295), .ref (ad 326)])
  else if j < 16 then cF cs ad 1 (j - 1) r else if j < 30 then cS cs ad 1 16 (j - 16) r else if j < 45 then cF cs ad 30 (j - 30) r else if j < 59 then cS cs ad 30 45 (j - 45) r
  else if j < 76 then cC cs ad j r else if j < 81 then cT cs ad j r else if j < 291 then cF cs ad (81 + 15 * ((j - 81) / 15)) ((j - 81) % 15) r else if j < 296 then cO cs ad j r
  else if j < 326 then cF cs ad (296 + 15 * ((j - 296) / 15)) ((j - 296) % 15) r else if j = 326 then rZ cs 2 r else cell0 cs (fun i => ad (327 + i)) (j - 327) r
def cellR (G : Gx) (j : Nat) (r : Nat → Int32) : va_E := match gO G j with
  | some e => e
  | none => cellAt (gC G) (gA G) j r
abbrev cellOf (G : Gx) (m : Mem) : Nat → va_E := fun j => cellR G j (m j)
def wrA (m : Mem) (j : Nat) (g : Nat → Int32) : Mem := fun a => if a = j then g else m a
abbrev wr (m : Mem) (j k : Nat) (v : Int32) : Mem := wrA m j (upd (m j) k v)
/-- arrays of int rows, and of forests: their classes are there -/
def kx_AA (U : State) : Prop := (Cond.arrayOver (.array .int)).before #[] U = true
theorem kx_AA.moved {u U : State} (hvm : u.vm.Alike U.vm) (h : kx_AA u) : kx_AA U := by
  unfold kx_AA Cond.before Cond.holds at h ⊢
  simp only [Cond.value, beq_iff_eq] at h ⊢
  cases hc : u.vm.findClass (FieldType.array .int).toString with
  | none => simp [hc] at h
  | some comp =>
    simp only [hc, Option.bind_some, Option.bind_eq_some_iff, Option.map_eq_some_iff] at h
    obtain ⟨c, hi, k, hk, hb⟩ := h
    obtain ⟨k', hk', he⟩ := hvm.2.2 _ _ hk
    have e1 := va_idx_bare U.vm comp
    have e2 := va_idx_bare u.vm comp
    have e3 : U.vm.bare = u.vm.bare := by first | exact hvm.bare_eq | exact hvm.bare_eq.symm
    rw [e3] at e1
    have hkind : k'.kind = k.kind := by rw [he]
    have f1 : U.vm.findClass (FieldType.array .int).toString = some comp := by rw [hvm.findClass]; exact hc
    rw [f1, Option.bind_some]
    refine (congrArg (fun o : Option Nat => (o.bind (fun c => (U.vm.classes[c]?).map fun (k : Class) => match k.kind with | .array _ ty => decide (ty = FieldType.array .int) && decide (U.vm.findClass ("[" ++ (FieldType.array .int).toString) = some c) | _ => false))) (e1.symm.trans (e2.trans hi))).trans ?_
    simp only [Option.bind_some, hk', Option.map_some]
    rw [hkind, hvm.findClass]
    exact congrArg some hb
def Kx (G : Gx) (U : State) : Prop := va_K (gD G) vwCl (T4 (gC G)) U ∧ va_AO RX1 U ∧ kx_AA U
theorem Kx.moved {G : Gx} {u U : State} (hvm : u.vm.Alike U.vm) (h : Kx G u) : Kx G U := ⟨h.1.moved hvm, h.2.1.moved hvm, h.2.2.moved hvm⟩
/-! the judgement -/
def Cx (M : MTy) (A : State → Nat → Prop) (E : Array Value → State → Prop) (G : Gx) (p : Program) (s : State) (m : MethodId) (args : Array Value) (meth : Method) (c : Code) : Prop :=
  p.tables.exec = Jvm.exec ∧ c.code = M.2.1 ∧ c.maxLocals = M.2.2.1 ∧ s.vm.findClass M.1.cls = some m.cls ∧ (∀ w ∈ TB, w.before args s = true) ∧ meth.sig.returnType = M.2.2.2.1 ∧ meth.locks = false ∧ meth.name = M.1.name ∧ Kx G s ∧ (∀ q, s.heap.size ≤ q → A s q) ∧ E args s
def Xg (l : Launch) (M : MTy) (A : State → Nat → Prop) (Z : List Frame → Array Value → State → State → Prop) (E : Array Value → State → Prop) (G : Gx) (cells slots : Nat) (mem : Mem) (pc : Nat) (lv : Lv) (st : List Value) : Prop :=
  ∀ (p : Program) (e : Env) (s : State) (m : MethodId) (args : Array Value) (below : List Frame) (meth : Method) (c : Code) (H : Heap) (locs : List Loc) (ls : Array Slot),
    Cx M A E G p s m args meth c → va_P (gD G) vwCl (wd (gK G) (gA G) (cellOf G mem)) H → va_D (A s) (wd (gK G) (gA G) (cellOf G mem)) → va_S (A s) s.heap H locs → lv_has ls M.2.2.1 lv →
    W p l e M.2.2.2.2 s m args below meth c H locs cells slots (Z below args s) (F0 m pc ls st)
/-- which cells a method may change -/
def Fr (G : Gx) (sz : Nat) : Nat → Prop := fun q => (∃ i, i < gK G ∧ q = gA G i) ∨ sz ≤ q
/-- what a method's end says -/
def Qm (G : Gx) (P : Option Value → Gx → Mem → Prop) (sz : Nat) : Array Value → State → Outcome → State → Prop := fun _ st oc t =>
  (∃ (o : Option Value) (G' : Gx) (mem' : Mem), oc = .returned o ∧ P o G' mem' ∧ gD G' = gD G ∧ gC G' = gC G ∧ va_P (gD G) vwCl (wd (gK G') (gA G') (cellOf G' mem')) t.heap ∧ va_D (Fr G sz) (wd (gK G') (gA G') (cellOf G' mem'))) ∧ va_F (Fr G sz) st t
def Pm (G : Gx) (mem : Mem) (sz : Nat) : State → Prop := fun U => U.heap.size = sz ∧ va_P (gD G) vwCl (wd (gK G) (gA G) (cellOf G mem)) U.heap ∧ Kx G U ∧ va_D (fun _ => True) (wd (gK G) (gA G) (cellOf G mem))
abbrev wsM (M : MTy) : List Cond := Cond.code M.1 M.2.1 M.2.2.1 M.2.2.2.1 :: TB
/-- CONTRACT: from the memory mem, with the arguments As, the method returns, and its answer, the cells and the memory satisfy P -/
def Ctg (l : Launch) (M : MTy) (G : Gx) (mc ms : Nat) (As : List Value) (mem : Mem) (P : Option Value → Gx → Mem → Prop) : Prop :=
  ∀ sz : Nat, Met l M.1 (wsM M) M.2.2.2.2 (va_Pc As (Pm G mem sz)) (Qm G P sz) mc ms (Fr G sz)
abbrev Ct (l : Launch) (M : MTy) (G : Gx) (As : List Value) (mem : Mem) (P : Option Value → Mem → Prop) : Prop := Ctg l M G 0 0 As mem (fun o G' m' => G' = G ∧ P o m')
abbrev CtI (l : Launch) (M : MTy) (G : Gx) (As : List Value) (mem : Mem) (P : Int32 → Mem → Prop) : Prop := Ct l M G As mem (fun o m' => ∃ r, o = some (.int r) ∧ P r m')
abbrev CtL (l : Launch) (M : MTy) (G : Gx) (As : List Value) (mem : Mem) (P : Int64 → Mem → Prop) : Prop := Ct l M G As mem (fun o m' => ∃ r, o = some (.long r) ∧ P r m')
abbrev CtV (l : Launch) (M : MTy) (G : Gx) (As : List Value) (mem : Mem) (P : Mem → Prop) : Prop := Ct l M G As mem (fun o m' => o = none ∧ P m')
/-- the judgement inside a method of a contract that answers P -/
abbrev Xm (l : Launch) (M : MTy) (G0 : Gx) (mc ms : Nat) (P : Option Value → Gx → Mem → Prop) (G : Gx) (cells slots : Nat) (mem : Mem) (pc : Nat) (lv : Lv) (st : List Value) : Prop :=
  Xg l M (fun s => Fr G0 s.heap.size) (fun below args s => MQ below (Qm G0 P s.heap.size) args s mc ms (Fr G0 s.heap.size)) (fun _ _ => True) G cells slots mem pc lv st
abbrev XI (l : Launch) (M : MTy) (G : Gx) (P : Int32 → Mem → Prop) (mem : Mem) (pc : Nat) (lv : Lv) (st : List Value) : Prop := Xm l M G 0 0 (fun o G' m' => G' = G ∧ ∃ r, o = some (.int r) ∧ P r m') G 0 0 mem pc lv st
abbrev XL (l : Launch) (M : MTy) (G : Gx) (P : Int64 → Mem → Prop) (mem : Mem) (pc : Nat) (lv : Lv) (st : List Value) : Prop := Xm l M G 0 0 (fun o G' m' => G' = G ∧ ∃ r, o = some (.long r) ∧ P r m') G 0 0 mem pc lv st
abbrev XV (l : Launch) (M : MTy) (G : Gx) (P : Mem → Prop) (mem : Mem) (pc : Nat) (lv : Lv) (st : List Value) : Prop := Xm l M G 0 0 (fun o G' m' => G' = G ∧ o = none ∧ P m') G 0 0 mem pc lv st
theorem Ctg.mono {l : Launch} {M : MTy} {G : Gx} {mc ms : Nat} {As : List Value} {mem : Mem} {P P' : Option Value → Gx → Mem → Prop} (h : Ctg l M G mc ms As mem P) (hp : ∀ o G' m', P o G' m' → P' o G' m') : Ctg l M G mc ms As mem P' := by
  intro sz p e ha hc hk s m args below hf h1 h2 h3
  obtain ⟨k, o, g1, g2, g3, ⟨⟨⟨o1, G', m', e1, e2, e3⟩, e4⟩, e5⟩⟩ := h sz p e ha hc hk s m args below hf h1 h2 h3
  exact ⟨k, o, g1, g2, g3, ⟨⟨⟨o1, G', m', e1, hp _ _ _ e2, e3⟩, e4⟩, e5⟩⟩
/-- from the first instruction to the contract -/
theorem Ctg.of {l : Launch} {M : MTy} {G : Gx} {mc ms : Nat} {As : List Value} {mem : Mem} {P : Option Value → Gx → Mem → Prop} (hy : plainName M.1.cls = true) (hn : (lg_sl As).length ≤ M.2.2.1) {lv : Lv} (hlv : lv_args 0 As = lv)
    (k : Xm l M G mc ms P G 0 0 mem 0 lv []) : Ctg l M G mc ms As mem P := by
  intro sz
  refine Met.ofW (cc := M.2.1) (maxL := M.2.2.1) (ret := M.2.2.2.1) hy rfl ?_
  intro p e s m args below meth c s₁ B hml hv
  obtain ⟨rfl, hsz, hP, hK, hD0⟩ := hv
  have hts := atoms_spec (ws := wsM M) B.pre
  subst hsz
  have hC : Cx M (fun s => Fr G s.heap.size) (fun _ _ => True) G p s m As.toArray meth c :=
    ⟨B.exec, B.bytes, hml, findClass_of_methodNamed B.named, fun w h => hts w (List.mem_cons_of_mem _ h), B.returns, B.notSynchronized, (name_of_methodNamed B.named B.method).1, hK, fun q h => Or.inr h, trivial⟩
  have hl := lv_entry As (n := M.2.2.1) hn
  rw [hlv] at hl
  rw [lg_entry_eq]
  exact k p e s m As.toArray below meth c s.heap [] _ hC hP (hD0.weaken (fun k q hq _ => by obtain ⟨h1, rfl⟩ := wd_mem hq; exact Or.inl ⟨k, h1, rfl⟩)) va_S.rf hl
end
section
/-! a rule an instruction, over Xg -/
section XR
variable {l : Launch} {M : MTy} {A : State → Nat → Prop} {Z : List Frame → Array Value → State → State → Prop} {E : Array Value → State → Prop} {G : Gx} {cells slots : Nat} {mem : Mem} {pc : Nat} {lv lv' : Lv} {st : List Value}
theorem x_iconst {n : Int} {v : Int32} (hdg : decode M.2.1 pc = .ok (.iconst n, 1)) (hv : Int32.ofInt n = v) (kk : Xg l M A Z E G cells slots mem (pc + 1) lv (.int v :: st)) : Xg l M A Z E G cells slots mem pc lv st := by
  intro p e s m args below meth c H locs ls C hP hD hS hL
  exact lv_iconst C.1 C.2.1 hdg hv (kk p e s m args below meth c H locs _ C hP hD hS hL)
theorem x_bipush {n : Int} {v : Int32} (hdg : decode M.2.1 pc = .ok (.bipush n, 2)) (hv : (Int8.ofInt n).toInt32 = v) (kk : Xg l M A Z E G cells slots mem (pc + 2) lv (.int v :: st)) : Xg l M A Z E G cells slots mem pc lv st := by
  intro p e s m args below meth c H locs ls C hP hD hS hL
  exact lv_bipush C.1 C.2.1 hdg hv (kk p e s m args below meth c H locs _ C hP hD hS hL)
theorem x_sipush {n : Int} {v : Int32} (hdg : decode M.2.1 pc = .ok (.sipush n, 3)) (hv : (Int16.ofInt n).toInt32 = v) (kk : Xg l M A Z E G cells slots mem (pc + 3) lv (.int v :: st)) : Xg l M A Z E G cells slots mem pc lv st := by
  intro p e s m args below meth c H locs ls C hP hD hS hL
  exact lv_sipush C.1 C.2.1 hdg hv (kk p e s m args below meth c H locs _ C hP hD hS hL)
theorem x_lconst {n : Fin 2} {v : Int64} (hdg : decode M.2.1 pc = .ok (.lconst n, 1)) (hv : Int64.ofNat (n : Nat) = v) (kk : Xg l M A Z E G cells slots mem (pc + 1) lv (.long v :: st)) : Xg l M A Z E G cells slots mem pc lv st := by
  intro p e s m args below meth c H locs ls C hP hD hS hL
  exact lv_lconst C.1 C.2.1 hdg hv (kk p e s m args below meth c H locs _ C hP hD hS hL)
theorem x_ldc {index : Nat} {v : Int32} (hdg : decode M.2.1 pc = .ok (.ldc index, 2)) (hw : Cond.constant M.1.cls index v ∈ TB) (kk : Xg l M A Z E G cells slots mem (pc + 2) lv (.int v :: st)) : Xg l M A Z E G cells slots mem pc lv st := by
  intro p e s m args below meth c H locs ls C hP hD hS hL
  exact lv_ldc C.1 C.2.1 C.2.2.2.1 (C.2.2.2.2.1 _ hw) hdg (kk p e s m args below meth c H locs _ C hP hD hS hL)
theorem x_ldc2 {index : Nat} {v : Int64} (hdg : decode M.2.1 pc = .ok (.ldc2_w index, 3)) (hw : Cond.constantLong M.1.cls index v ∈ TB) (kk : Xg l M A Z E G cells slots mem (pc + 3) lv (.long v :: st)) : Xg l M A Z E G cells slots mem pc lv st := by
  intro p e s m args below meth c H locs ls C hP hD hS hL
  exact lv_ldc2 C.1 C.2.1 C.2.2.2.1 (C.2.2.2.2.1 _ hw) hdg (kk p e s m args below meth c H locs _ C hP hD hS hL)
theorem x_iload_n {k : Fin 4} {i : Nat} {x : Int32} (hdg : decode M.2.1 pc = .ok (.iload_n k, 1)) (q : Nat) (hl : lv[q]? = some (i, .int x)) (hi : (k : Nat) = i) (kk : Xg l M A Z E G cells slots mem (pc + 1) lv (.int x :: st)) : Xg l M A Z E G cells slots mem pc lv st := by
  intro p e s m args below meth c H locs ls C hP hD hS hL
  exact lv_iload_n C.1 C.2.1 hdg hi (lv_at hL q hl) (kk p e s m args below meth c H locs _ C hP hD hS hL)
theorem x_iload {i : Nat} {x : Int32} (hdg : decode M.2.1 pc = .ok (.iload i, 2)) (q : Nat) (hl : lv[q]? = some (i, .int x)) (kk : Xg l M A Z E G cells slots mem (pc + 2) lv (.int x :: st)) : Xg l M A Z E G cells slots mem pc lv st := by
  intro p e s m args below meth c H locs ls C hP hD hS hL
  exact lv_iload C.1 C.2.1 hdg (lv_at hL q hl) (kk p e s m args below meth c H locs _ C hP hD hS hL)
theorem x_lload_n {k : Fin 4} {i : Nat} {x : Int64} (hdg : decode M.2.1 pc = .ok (.lload_n k, 1)) (q : Nat) (hl : lv[q]? = some (i, .long x)) (hi : (k : Nat) = i) (kk : Xg l M A Z E G cells slots mem (pc + 1) lv (.long x :: st)) : Xg l M A Z E G cells slots mem pc lv st := by
  intro p e s m args below meth c H locs ls C hP hD hS hL
  exact lv_lload_n C.1 C.2.1 hdg hi (lv_at hL q hl) (kk p e s m args below meth c H locs _ C hP hD hS hL)
theorem x_lload {i : Nat} {x : Int64} (hdg : decode M.2.1 pc = .ok (.lload i, 2)) (q : Nat) (hl : lv[q]? = some (i, .long x)) (kk : Xg l M A Z E G cells slots mem (pc + 2) lv (.long x :: st)) : Xg l M A Z E G cells slots mem pc lv st := by
  intro p e s m args below meth c H locs ls C hP hD hS hL
  exact lv_lload C.1 C.2.1 hdg (lv_at hL q hl) (kk p e s m args below meth c H locs _ C hP hD hS hL)
theorem x_aload_n {k : Fin 4} {i : Nat} {x : Nat} (hdg : decode M.2.1 pc = .ok (.aload_n k, 1)) (q : Nat) (hl : lv[q]? = some (i, .ref x)) (hi : (k : Nat) = i) (kk : Xg l M A Z E G cells slots mem (pc + 1) lv (.ref x :: st)) : Xg l M A Z E G cells slots mem pc lv st := by
  intro p e s m args below meth c H locs ls C hP hD hS hL
  exact lv_aload_n C.1 C.2.1 hdg hi (lv_at hL q hl) (kk p e s m args below meth c H locs _ C hP hD hS hL)
theorem x_aload {i : Nat} {x : Nat} (hdg : decode M.2.1 pc = .ok (.aload i, 2)) (q : Nat) (hl : lv[q]? = some (i, .ref x)) (kk : Xg l M A Z E G cells slots mem (pc + 2) lv (.ref x :: st)) : Xg l M A Z E G cells slots mem pc lv st := by
  intro p e s m args below meth c H locs ls C hP hD hS hL
  exact lv_aload C.1 C.2.1 hdg (lv_at hL q hl) (kk p e s m args below meth c H locs _ C hP hD hS hL)
theorem x_istore_n {k : Fin 4} {i : Nat} {x : Int32} (hdg : decode M.2.1 pc = .ok (.istore_n k, 1)) (hi : (k : Nat) = i) (hn : i < M.2.2.1) (hl : (i, Value.int x) :: lv.filter (fun q => !(q.1 == i) && !(q.1 + 1 == i && q.2.category == 2)) = lv') (kk : Xg l M A Z E G cells slots mem (pc + 1) lv' st) : Xg l M A Z E G cells slots mem pc lv (.int x :: st) := by
  intro p e s m args below meth c H locs ls C hP hD hS hL
  exact lv_istore_n C.1 C.2.1 hdg hi hL hn hl (fun ls hL => kk p e s m args below meth c H locs _ C hP hD hS hL)
theorem x_istore {i : Nat} {x : Int32} (hdg : decode M.2.1 pc = .ok (.istore i, 2)) (hn : i < M.2.2.1) (hl : (i, Value.int x) :: lv.filter (fun q => !(q.1 == i) && !(q.1 + 1 == i && q.2.category == 2)) = lv') (kk : Xg l M A Z E G cells slots mem (pc + 2) lv' st) : Xg l M A Z E G cells slots mem pc lv (.int x :: st) := by
  intro p e s m args below meth c H locs ls C hP hD hS hL
  exact lv_istore C.1 C.2.1 hdg hL hn hl (fun ls hL => kk p e s m args below meth c H locs _ C hP hD hS hL)
theorem x_lstore_n {k : Fin 4} {i : Nat} {x : Int64} (hdg : decode M.2.1 pc = .ok (.lstore_n k, 1)) (hi : (k : Nat) = i) (hn : i + 1 < M.2.2.1) (hl : (i, Value.long x) :: lv.filter (fun q => !(q.1 == i) && (!(q.1 == i + 1) && !(q.1 + 1 == i && q.2.category == 2))) = lv') (kk : Xg l M A Z E G cells slots mem (pc + 1) lv' st) : Xg l M A Z E G cells slots mem pc lv (.long x :: st) := by
  intro p e s m args below meth c H locs ls C hP hD hS hL
  exact lv_lstore_n C.1 C.2.1 hdg hi hL hn hl (fun ls hL => kk p e s m args below meth c H locs _ C hP hD hS hL)
theorem x_lstore {i : Nat} {x : Int64} (hdg : decode M.2.1 pc = .ok (.lstore i, 2)) (hn : i + 1 < M.2.2.1) (hl : (i, Value.long x) :: lv.filter (fun q => !(q.1 == i) && (!(q.1 == i + 1) && !(q.1 + 1 == i && q.2.category == 2))) = lv') (kk : Xg l M A Z E G cells slots mem (pc + 2) lv' st) : Xg l M A Z E G cells slots mem pc lv (.long x :: st) := by
  intro p e s m args below meth c H locs ls C hP hD hS hL
  exact lv_lstore C.1 C.2.1 hdg hL hn hl (fun ls hL => kk p e s m args below meth c H locs _ C hP hD hS hL)
theorem x_astore_n {k : Fin 4} {i : Nat} {x : Nat} (hdg : decode M.2.1 pc = .ok (.astore_n k, 1)) (hi : (k : Nat) = i) (hn : i < M.2.2.1) (hl : (i, Value.ref x) :: lv.filter (fun q => !(q.1 == i) && !(q.1 + 1 == i && q.2.category == 2)) = lv') (kk : Xg l M A Z E G cells slots mem (pc + 1) lv' st) : Xg l M A Z E G cells slots mem pc lv (.ref x :: st) := by
  intro p e s m args below meth c H locs ls C hP hD hS hL
  exact lv_astore_n C.1 C.2.1 hdg hi hL hn hl (fun ls hL => kk p e s m args below meth c H locs _ C hP hD hS hL)
theorem x_astore {i : Nat} {x : Nat} (hdg : decode M.2.1 pc = .ok (.astore i, 2)) (hn : i < M.2.2.1) (hl : (i, Value.ref x) :: lv.filter (fun q => !(q.1 == i) && !(q.1 + 1 == i && q.2.category == 2)) = lv') (kk : Xg l M A Z E G cells slots mem (pc + 2) lv' st) : Xg l M A Z E G cells slots mem pc lv (.ref x :: st) := by
  intro p e s m args below meth c H locs ls C hP hD hS hL
  exact lv_astore C.1 C.2.1 hdg hL hn hl (fun ls hL => kk p e s m args below meth c H locs _ C hP hD hS hL)
theorem x_iinc {i k : Nat} {n : Int} {x v : Int32} (hdg : decode M.2.1 pc = .ok (.iinc i n, 3)) (hk : lv[k]? = some (i, .int x)) (hv : x + Int32.ofInt n = v) (hn : i < M.2.2.1) (hl : (i, Value.int v) :: lv.filter (fun q => !(q.1 == i) && !(q.1 + 1 == i && q.2.category == 2)) = lv') (kk : Xg l M A Z E G cells slots mem (pc + 3) lv' st) : Xg l M A Z E G cells slots mem pc lv st := by
  intro p e s m args below meth c H locs ls C hP hD hS hL
  exact lv_iinc C.1 C.2.1 hdg hL hk hv hn hl (fun ls hL => kk p e s m args below meth c H locs _ C hP hD hS hL)
theorem x_iadd {x y : Int32} (hdg : decode M.2.1 pc = .ok (.iadd, 1)) (kk : Xg l M A Z E G cells slots mem (pc + 1) lv (.int (x + y) :: st)) : Xg l M A Z E G cells slots mem pc lv (.int y :: .int x :: st) := by
  intro p e s m args below meth c H locs ls C hP hD hS hL
  exact lv_iadd C.1 C.2.1 hdg (kk p e s m args below meth c H locs _ C hP hD hS hL)
theorem x_isub {x y : Int32} (hdg : decode M.2.1 pc = .ok (.isub, 1)) (kk : Xg l M A Z E G cells slots mem (pc + 1) lv (.int (x - y) :: st)) : Xg l M A Z E G cells slots mem pc lv (.int y :: .int x :: st) := by
  intro p e s m args below meth c H locs ls C hP hD hS hL
  exact lv_isub C.1 C.2.1 hdg (kk p e s m args below meth c H locs _ C hP hD hS hL)
theorem x_imul {x y : Int32} (hdg : decode M.2.1 pc = .ok (.imul, 1)) (kk : Xg l M A Z E G cells slots mem (pc + 1) lv (.int (x * y) :: st)) : Xg l M A Z E G cells slots mem pc lv (.int y :: .int x :: st) := by
  intro p e s m args below meth c H locs ls C hP hD hS hL
  exact lv_imul C.1 C.2.1 hdg (kk p e s m args below meth c H locs _ C hP hD hS hL)
theorem x_iand {x y : Int32} (hdg : decode M.2.1 pc = .ok (.iand, 1)) (kk : Xg l M A Z E G cells slots mem (pc + 1) lv (.int (x &&& y) :: st)) : Xg l M A Z E G cells slots mem pc lv (.int y :: .int x :: st) := by
  intro p e s m args below meth c H locs ls C hP hD hS hL
  exact lv_iand C.1 C.2.1 hdg (kk p e s m args below meth c H locs _ C hP hD hS hL)
theorem x_idiv {x y : Int32} (hdg : decode M.2.1 pc = .ok (.idiv, 1)) (hne : ¬ y = 0) (kk : Xg l M A Z E G cells slots mem (pc + 1) lv (.int (x / y) :: st)) : Xg l M A Z E G cells slots mem pc lv (.int y :: .int x :: st) := by
  intro p e s m args below meth c H locs ls C hP hD hS hL
  exact lv_idiv C.1 C.2.1 hdg hne (kk p e s m args below meth c H locs _ C hP hD hS hL)
theorem x_irem {x y : Int32} (hdg : decode M.2.1 pc = .ok (.irem, 1)) (hne : ¬ y = 0) (kk : Xg l M A Z E G cells slots mem (pc + 1) lv (.int (x - x / y * y) :: st)) : Xg l M A Z E G cells slots mem pc lv (.int y :: .int x :: st) := by
  intro p e s m args below meth c H locs ls C hP hD hS hL
  exact lv_irem C.1 C.2.1 hdg hne (kk p e s m args below meth c H locs _ C hP hD hS hL)
theorem x_ladd {x y : Int64} (hdg : decode M.2.1 pc = .ok (.ladd, 1)) (kk : Xg l M A Z E G cells slots mem (pc + 1) lv (.long (x + y) :: st)) : Xg l M A Z E G cells slots mem pc lv (.long y :: .long x :: st) := by
  intro p e s m args below meth c H locs ls C hP hD hS hL
  exact lv_ladd C.1 C.2.1 hdg (kk p e s m args below meth c H locs _ C hP hD hS hL)
theorem x_lsub {x y : Int64} (hdg : decode M.2.1 pc = .ok (.lsub, 1)) (kk : Xg l M A Z E G cells slots mem (pc + 1) lv (.long (x - y) :: st)) : Xg l M A Z E G cells slots mem pc lv (.long y :: .long x :: st) := by
  intro p e s m args below meth c H locs ls C hP hD hS hL
  exact lv_lsub C.1 C.2.1 hdg (kk p e s m args below meth c H locs _ C hP hD hS hL)
theorem x_lmul {x y : Int64} (hdg : decode M.2.1 pc = .ok (.lmul, 1)) (kk : Xg l M A Z E G cells slots mem (pc + 1) lv (.long (x * y) :: st)) : Xg l M A Z E G cells slots mem pc lv (.long y :: .long x :: st) := by
  intro p e s m args below meth c H locs ls C hP hD hS hL
  exact lv_lmul C.1 C.2.1 hdg (kk p e s m args below meth c H locs _ C hP hD hS hL)
theorem x_land {x y : Int64} (hdg : decode M.2.1 pc = .ok (.land, 1)) (kk : Xg l M A Z E G cells slots mem (pc + 1) lv (.long (x &&& y) :: st)) : Xg l M A Z E G cells slots mem pc lv (.long y :: .long x :: st) := by
  intro p e s m args below meth c H locs ls C hP hD hS hL
  exact lv_land C.1 C.2.1 hdg (kk p e s m args below meth c H locs _ C hP hD hS hL)
theorem x_lor {x y : Int64} (hdg : decode M.2.1 pc = .ok (.lor, 1)) (kk : Xg l M A Z E G cells slots mem (pc + 1) lv (.long (x ||| y) :: st)) : Xg l M A Z E G cells slots mem pc lv (.long y :: .long x :: st) := by
  intro p e s m args below meth c H locs ls C hP hD hS hL
  exact lv_lor C.1 C.2.1 hdg (kk p e s m args below meth c H locs _ C hP hD hS hL)
theorem x_ldiv {x y : Int64} (hdg : decode M.2.1 pc = .ok (.ldiv, 1)) (hne : ¬ y = 0) (kk : Xg l M A Z E G cells slots mem (pc + 1) lv (.long (x / y) :: st)) : Xg l M A Z E G cells slots mem pc lv (.long y :: .long x :: st) := by
  intro p e s m args below meth c H locs ls C hP hD hS hL
  exact lv_ldiv C.1 C.2.1 hdg hne (kk p e s m args below meth c H locs _ C hP hD hS hL)
theorem x_lrem {x y : Int64} (hdg : decode M.2.1 pc = .ok (.lrem, 1)) (hne : ¬ y = 0) (kk : Xg l M A Z E G cells slots mem (pc + 1) lv (.long (x - x / y * y) :: st)) : Xg l M A Z E G cells slots mem pc lv (.long y :: .long x :: st) := by
  intro p e s m args below meth c H locs ls C hP hD hS hL
  exact lv_lrem C.1 C.2.1 hdg hne (kk p e s m args below meth c H locs _ C hP hD hS hL)
theorem x_lushr {x : Int64} {y : Int32} (hdg : decode M.2.1 pc = .ok (.lushr, 1)) (kk : Xg l M A Z E G cells slots mem (pc + 1) lv (.long ((x.toUInt64 >>> (y.toInt64.toUInt64 &&& Int64.toUInt64 63)).toInt64) :: st)) : Xg l M A Z E G cells slots mem pc lv (.int y :: .long x :: st) := by
  intro p e s m args below meth c H locs ls C hP hD hS hL
  exact lv_lushr C.1 C.2.1 hdg rfl (kk p e s m args below meth c H locs _ C hP hD hS hL)
theorem x_lshl {x : Int64} {y : Int32} (hdg : decode M.2.1 pc = .ok (.lshl, 1)) (kk : Xg l M A Z E G cells slots mem (pc + 1) lv (.long (x <<< (y.toInt64 &&& 63)) :: st)) : Xg l M A Z E G cells slots mem pc lv (.int y :: .long x :: st) := by
  intro p e s m args below meth c H locs ls C hP hD hS hL
  exact lv_lshl C.1 C.2.1 hdg rfl (kk p e s m args below meth c H locs _ C hP hD hS hL)
theorem x_i2l {x : Int32} (hdg : decode M.2.1 pc = .ok (.i2l, 1)) (kk : Xg l M A Z E G cells slots mem (pc + 1) lv (.long x.toInt64 :: st)) : Xg l M A Z E G cells slots mem pc lv (.int x :: st) := by
  intro p e s m args below meth c H locs ls C hP hD hS hL
  exact lv_i2l C.1 C.2.1 hdg rfl (kk p e s m args below meth c H locs _ C hP hD hS hL)
theorem x_l2i {x : Int64} (hdg : decode M.2.1 pc = .ok (.l2i, 1)) (kk : Xg l M A Z E G cells slots mem (pc + 1) lv (.int x.toInt32 :: st)) : Xg l M A Z E G cells slots mem pc lv (.long x :: st) := by
  intro p e s m args below meth c H locs ls C hP hD hS hL
  exact lv_l2i C.1 C.2.1 hdg rfl (kk p e s m args below meth c H locs _ C hP hD hS hL)
theorem x_lcmp {x y : Int64} (hdg : decode M.2.1 pc = .ok (.lcmp, 1)) (kk : Xg l M A Z E G cells slots mem (pc + 1) lv (.int (lg_cmp x y) :: st)) : Xg l M A Z E G cells slots mem pc lv (.long y :: .long x :: st) := by
  intro p e s m args below meth c H locs ls C hP hD hS hL
  exact W.lcmp C.1 C.2.1 hdg (kk p e s m args below meth c H locs _ C hP hD hS hL)
theorem x_dup {v : Value} (hdg : decode M.2.1 pc = .ok (.dup, 1)) (hv : v.category = 1) (kk : Xg l M A Z E G cells slots mem (pc + 1) lv (v :: v :: st)) : Xg l M A Z E G cells slots mem pc lv (v :: st) := by
  intro p e s m args below meth c H locs ls C hP hD hS hL
  exact lv_dup C.1 C.2.1 hdg hv (kk p e s m args below meth c H locs _ C hP hD hS hL)
theorem x_goto {off : Int} {tgt : Nat} (hdg : decode M.2.1 pc = .ok (.goto off, 3)) (ht : (pc : Int) + off = (tgt : Int)) (kk : Xg l M A Z E G cells slots mem tgt lv st) : Xg l M A Z E G cells slots mem pc lv st := by
  intro p e s m args below meth c H locs ls C hP hD hS hL
  exact lv_goto C.1 C.2.1 hdg ht (kk p e s m args below meth c H locs _ C hP hD hS hL)
theorem x_if_eq {x : Int32} {off : Int} {tgt : Nat} (hdg : decode M.2.1 pc = .ok (.ifCond .eq off, 3)) (ht : (pc : Int) + off = (tgt : Int)) (kt : x = 0 → Xg l M A Z E G cells slots mem tgt lv st) (kf : ¬ x = 0 → Xg l M A Z E G cells slots mem (pc + 3) lv st) : Xg l M A Z E G cells slots mem pc lv (.int x :: st) := by
  intro p e s m args below meth c H locs ls C hP hD hS hL
  exact lv_if_eq C.1 C.2.1 hdg ht (fun h => kt h p e s m args below meth c H locs _ C hP hD hS hL) (fun h => kf h p e s m args below meth c H locs _ C hP hD hS hL)
theorem x_icmp_eq {x y : Int32} {off : Int} {tgt : Nat} (hdg : decode M.2.1 pc = .ok (.if_icmp .eq off, 3)) (ht : (pc : Int) + off = (tgt : Int)) (kt : x = y → Xg l M A Z E G cells slots mem tgt lv st) (kf : ¬ x = y → Xg l M A Z E G cells slots mem (pc + 3) lv st) : Xg l M A Z E G cells slots mem pc lv (.int y :: .int x :: st) := by
  intro p e s m args below meth c H locs ls C hP hD hS hL
  exact lv_icmp_eq C.1 C.2.1 hdg ht (fun h => kt h p e s m args below meth c H locs _ C hP hD hS hL) (fun h => kf h p e s m args below meth c H locs _ C hP hD hS hL)
theorem x_if_ne {x : Int32} {off : Int} {tgt : Nat} (hdg : decode M.2.1 pc = .ok (.ifCond .ne off, 3)) (ht : (pc : Int) + off = (tgt : Int)) (kt : ¬ x = 0 → Xg l M A Z E G cells slots mem tgt lv st) (kf : x = 0 → Xg l M A Z E G cells slots mem (pc + 3) lv st) : Xg l M A Z E G cells slots mem pc lv (.int x :: st) := by
  intro p e s m args below meth c H locs ls C hP hD hS hL
  exact lv_if_ne C.1 C.2.1 hdg ht (fun h => kt h p e s m args below meth c H locs _ C hP hD hS hL) (fun h => kf h p e s m args below meth c H locs _ C hP hD hS hL)
theorem x_icmp_ne {x y : Int32} {off : Int} {tgt : Nat} (hdg : decode M.2.1 pc = .ok (.if_icmp .ne off, 3)) (ht : (pc : Int) + off = (tgt : Int)) (kt : ¬ x = y → Xg l M A Z E G cells slots mem tgt lv st) (kf : x = y → Xg l M A Z E G cells slots mem (pc + 3) lv st) : Xg l M A Z E G cells slots mem pc lv (.int y :: .int x :: st) := by
  intro p e s m args below meth c H locs ls C hP hD hS hL
  exact lv_icmp_ne C.1 C.2.1 hdg ht (fun h => kt h p e s m args below meth c H locs _ C hP hD hS hL) (fun h => kf h p e s m args below meth c H locs _ C hP hD hS hL)
theorem x_if_lt {x : Int32} {off : Int} {tgt : Nat} (hdg : decode M.2.1 pc = .ok (.ifCond .lt off, 3)) (ht : (pc : Int) + off = (tgt : Int)) (kt : x < 0 → Xg l M A Z E G cells slots mem tgt lv st) (kf : ¬ x < 0 → Xg l M A Z E G cells slots mem (pc + 3) lv st) : Xg l M A Z E G cells slots mem pc lv (.int x :: st) := by
  intro p e s m args below meth c H locs ls C hP hD hS hL
  exact lv_if_lt C.1 C.2.1 hdg ht (fun h => kt h p e s m args below meth c H locs _ C hP hD hS hL) (fun h => kf h p e s m args below meth c H locs _ C hP hD hS hL)
theorem x_icmp_lt {x y : Int32} {off : Int} {tgt : Nat} (hdg : decode M.2.1 pc = .ok (.if_icmp .lt off, 3)) (ht : (pc : Int) + off = (tgt : Int)) (kt : x < y → Xg l M A Z E G cells slots mem tgt lv st) (kf : ¬ x < y → Xg l M A Z E G cells slots mem (pc + 3) lv st) : Xg l M A Z E G cells slots mem pc lv (.int y :: .int x :: st) := by
  intro p e s m args below meth c H locs ls C hP hD hS hL
  exact lv_icmp_lt C.1 C.2.1 hdg ht (fun h => kt h p e s m args below meth c H locs _ C hP hD hS hL) (fun h => kf h p e s m args below meth c H locs _ C hP hD hS hL)
theorem x_if_ge {x : Int32} {off : Int} {tgt : Nat} (hdg : decode M.2.1 pc = .ok (.ifCond .ge off, 3)) (ht : (pc : Int) + off = (tgt : Int)) (kt : 0 ≤ x → Xg l M A Z E G cells slots mem tgt lv st) (kf : ¬ 0 ≤ x → Xg l M A Z E G cells slots mem (pc + 3) lv st) : Xg l M A Z E G cells slots mem pc lv (.int x :: st) := by
  intro p e s m args below meth c H locs ls C hP hD hS hL
  exact lv_if_ge C.1 C.2.1 hdg ht (fun h => kt h p e s m args below meth c H locs _ C hP hD hS hL) (fun h => kf h p e s m args below meth c H locs _ C hP hD hS hL)
theorem x_icmp_ge {x y : Int32} {off : Int} {tgt : Nat} (hdg : decode M.2.1 pc = .ok (.if_icmp .ge off, 3)) (ht : (pc : Int) + off = (tgt : Int)) (kt : y ≤ x → Xg l M A Z E G cells slots mem tgt lv st) (kf : ¬ y ≤ x → Xg l M A Z E G cells slots mem (pc + 3) lv st) : Xg l M A Z E G cells slots mem pc lv (.int y :: .int x :: st) := by
  intro p e s m args below meth c H locs ls C hP hD hS hL
  exact lv_icmp_ge C.1 C.2.1 hdg ht (fun h => kt h p e s m args below meth c H locs _ C hP hD hS hL) (fun h => kf h p e s m args below meth c H locs _ C hP hD hS hL)
theorem x_if_gt {x : Int32} {off : Int} {tgt : Nat} (hdg : decode M.2.1 pc = .ok (.ifCond .gt off, 3)) (ht : (pc : Int) + off = (tgt : Int)) (kt : 0 < x → Xg l M A Z E G cells slots mem tgt lv st) (kf : ¬ 0 < x → Xg l M A Z E G cells slots mem (pc + 3) lv st) : Xg l M A Z E G cells slots mem pc lv (.int x :: st) := by
  intro p e s m args below meth c H locs ls C hP hD hS hL
  exact lv_if_gt C.1 C.2.1 hdg ht (fun h => kt h p e s m args below meth c H locs _ C hP hD hS hL) (fun h => kf h p e s m args below meth c H locs _ C hP hD hS hL)
theorem x_icmp_gt {x y : Int32} {off : Int} {tgt : Nat} (hdg : decode M.2.1 pc = .ok (.if_icmp .gt off, 3)) (ht : (pc : Int) + off = (tgt : Int)) (kt : y < x → Xg l M A Z E G cells slots mem tgt lv st) (kf : ¬ y < x → Xg l M A Z E G cells slots mem (pc + 3) lv st) : Xg l M A Z E G cells slots mem pc lv (.int y :: .int x :: st) := by
  intro p e s m args below meth c H locs ls C hP hD hS hL
  exact lv_icmp_gt C.1 C.2.1 hdg ht (fun h => kt h p e s m args below meth c H locs _ C hP hD hS hL) (fun h => kf h p e s m args below meth c H locs _ C hP hD hS hL)
theorem x_if_le {x : Int32} {off : Int} {tgt : Nat} (hdg : decode M.2.1 pc = .ok (.ifCond .le off, 3)) (ht : (pc : Int) + off = (tgt : Int)) (kt : x ≤ 0 → Xg l M A Z E G cells slots mem tgt lv st) (kf : ¬ x ≤ 0 → Xg l M A Z E G cells slots mem (pc + 3) lv st) : Xg l M A Z E G cells slots mem pc lv (.int x :: st) := by
  intro p e s m args below meth c H locs ls C hP hD hS hL
  exact lv_if_le C.1 C.2.1 hdg ht (fun h => kt h p e s m args below meth c H locs _ C hP hD hS hL) (fun h => kf h p e s m args below meth c H locs _ C hP hD hS hL)
theorem x_icmp_le {x y : Int32} {off : Int} {tgt : Nat} (hdg : decode M.2.1 pc = .ok (.if_icmp .le off, 3)) (ht : (pc : Int) + off = (tgt : Int)) (kt : x ≤ y → Xg l M A Z E G cells slots mem tgt lv st) (kf : ¬ x ≤ y → Xg l M A Z E G cells slots mem (pc + 3) lv st) : Xg l M A Z E G cells slots mem pc lv (.int y :: .int x :: st) := by
  intro p e s m args below meth c H locs ls C hP hD hS hL
  exact lv_icmp_le C.1 C.2.1 hdg ht (fun h => kt h p e s m args below meth c H locs _ C hP hD hS hL) (fun h => kf h p e s m args below meth c H locs _ C hP hD hS hL)
theorem x_tableIn {dflt lo hi : Int} {offs : Array Int} {len : Nat} {x : Int32} {off : Int} {tgt : Nat} (hdg : decode M.2.1 pc = .ok (.tableswitch dflt lo hi offs, len)) (h1 : ¬ x.toInt < lo) (h2 : ¬ hi < x.toInt) (ho : offs[(x.toInt - lo).toNat]? = some off) (ht : (pc : Int) + off = (tgt : Int)) (kk : Xg l M A Z E G cells slots mem tgt lv st) : Xg l M A Z E G cells slots mem pc lv (.int x :: st) := by
  intro p e s m args below meth c H locs ls C hP hD hS hL
  exact lv_tableIn C.1 C.2.1 hdg h1 h2 ho ht (kk p e s m args below meth c H locs _ C hP hD hS hL)
theorem x_tableOut {dflt lo hi : Int} {offs : Array Int} {len : Nat} {x : Int32} {tgt : Nat} (hdg : decode M.2.1 pc = .ok (.tableswitch dflt lo hi offs, len)) (h : x.toInt < lo ∨ hi < x.toInt) (ht : (pc : Int) + dflt = (tgt : Int)) (kk : Xg l M A Z E G cells slots mem tgt lv st) : Xg l M A Z E G cells slots mem pc lv (.int x :: st) := by
  intro p e s m args below meth c H locs ls C hP hD hS hL
  exact lv_tableOut C.1 C.2.1 hdg h ht (kk p e s m args below meth c H locs _ C hP hD hS hL)
/-- fewer locals, in another order, by their places -/
theorem x_sub (ks : List Nat) (hl : lv_pick lv ks = lv') (kk : Xg l M A Z E G cells slots mem pc lv' st) : Xg l M A Z E G cells slots mem pc lv st := by
  intro p e s m args below meth c H locs ls C hP hD hS hL
  exact kk p e s m args below meth c H locs _ C hP hD hS (lv_sub hL ks hl)
/-- the same frame, written otherwise -/
theorem x_eq {pc2 : Nat} {st2 : List Value} (h : pc = pc2) (h2 : lv = lv') (h3 : st = st2) (kk : Xg l M A Z E G cells slots mem pc2 lv' st2) : Xg l M A Z E G cells slots mem pc lv st := by
  subst h; subst h2; subst h3; exact kk
theorem x_mem {mem2 : Mem} (h : mem = mem2) (kk : Xg l M A Z E G cells slots mem2 pc lv st) : Xg l M A Z E G cells slots mem pc lv st := by
  subst h; exact kk
theorem x_get {index ci N : Nat} {C0 ref : String} {T : u_T} (j k : Nat) {fs : List Value} {v : Value} (hdg : decode M.2.1 pc = .ok (.getfield index, 3)) (hj : j < gK G) (hc : cellR G j (mem j) = .inr (ci, fs)) (hcl : vwCl[ci]? = some (C0, T, N)) (hin : ∀ w ∈ u_ws C0 T N, w ∈ TB) (hk : k < N) (hw : Cond.fieldLink M.1.cls index ref (T k).2.1 (T k).2.2.1 ∈ TB) (hsame : (T k).1 = ref) (hv : fs[k]? = some v) (kk : Xg l M A Z E G cells slots mem (pc + 3) lv (v :: st)) : Xg l M A Z E G cells slots mem pc lv (.ref (gA G j) :: st) := by
  intro p e s m args below meth c H locs ls C hP hD hS hL
  exact va_get C.1 C.2.1 C.2.2.2.2.1 hin C.2.2.2.1 C.2.2.2.2.2.2.2.2.1.1 hP j (by rw [wd_at hj, ← hc]) hcl k hk (C.2.2.2.2.1 _ hw) (fun x h => by rw [hsame] at h; exact h) hv hdg (kk p e s m args below meth c H locs _ C hP hD hS hL)
/-- an int field is written -/
theorem x_put {index ci N : Nat} {C0 ref : String} {T : u_T} (j k : Nat) {fs : (Nat → Int32) → List Value} {v : Int32} (hdg : decode M.2.1 pc = .ok (.putfield index, 3)) (hj : j < gK G) (hc : ∀ r, cellR G j r = .inr (ci, fs r)) (hcl : vwCl[ci]? = some (C0, T, N)) (hin : ∀ w ∈ u_ws C0 T N, w ∈ TB) (ty0 : Nat → FieldType) (hty : ∀ k, k < N → parseFieldDescriptor (T k).2.2.1 = some (ty0 k)) (hnm : ∀ a, a < N → ∀ b, b < N → a ≠ b → (T a).2.1 ≠ (T b).2.1) (hk : k < N) (hw : Cond.fieldLink M.1.cls index ref (T k).2.1 (T k).2.2.1 ∈ TB) (hsame : (T k).1 = ref) (hfin : (T k).2.2.2 = false) (hd : parseFieldDescriptor (T k).2.2.1 = some .int) (hl : ∀ r, k < (fs r).length) (hset : ∀ (r : Nat → Int32) (v : Int32), (fs r).set k (.int v) = fs (upd r k v)) (kk : Xg l M A Z E G cells slots (wr mem j k v) (pc + 3) lv st) : Xg l M A Z E G cells slots mem pc lv (.int v :: .ref (gA G j) :: st) := by
  intro p e s m args below meth c H locs ls C hP hD hS hL
  have hset' : (wd (gK G) (gA G) (cellOf G mem)).set j (gA G j, .inr (ci, (fs (mem j)).set k (.int v))) = wd (gK G) (gA G) (cellOf G (wr mem j k v)) :=
    wd_set hj (by show cellR G j (wr mem j k v j) = _; rw [hc, hset]; simp [wr, wrA]) (fun i hi => by show cellR G i (wr mem j k v i) = _; simp [wr, wrA, hi])
  exact va_put C.1 C.2.1 C.2.2.2.2.1 hin ty0 hty hnm C.2.2.2.1 C.2.2.2.2.2.2.2.2.1.1 hP hD hS j (by rw [wd_at hj]; exact congrArg (fun z => some (gA G j, z)) (hc _)) hcl k hk (C.2.2.2.2.1 _ hw) (fun x h => by rw [hsame] at h; exact h) hfin hd rfl rfl (hl _) hdg (fun H1 locs1 hP1 hD1 hS1 => kk p e s m args below meth c H1 locs1 _ C (by rw [← hset']; exact hP1) (by rw [← hset']; exact hD1) hS1 hL)
theorem x_iald {n : Nat} {i : Int32} (j : Nat) (hdg : decode M.2.1 pc = .ok (.iaload, 1)) (hj : j < gK G) (hc : cellR G j (mem j) = rI (gC G) n (mem j)) (hin : vp_in i n) (kk : Xg l M A Z E G cells slots mem (pc + 1) lv (.int (mem j i.toNatClampNeg) :: st)) : Xg l M A Z E G cells slots mem pc lv (.int i :: .ref (gA G j) :: st) := by
  intro p e s m args below meth c H locs ls C hP hD hS hL
  exact va_iald C.1 C.2.1 C.2.2.2.2.2.2.2.2.1.1 hP j 0 (cA := (gC G).1) (n := n) (f := mem j) (by rw [wd_at hj]; exact congrArg (fun z => some (gA G j, z)) hc) rfl hin hdg (kk p e s m args below meth c H locs _ C hP hD hS hL)
theorem x_zald {n : Nat} {i : Int32} (j : Nat) (hdg : decode M.2.1 pc = .ok (.baload, 1)) (hj : j < gK G) (hc : cellR G j (mem j) = rZ (gC G) n (mem j)) (hin : vp_in i n) (kk : Xg l M A Z E G cells slots mem (pc + 1) lv (.int (mem j i.toNatClampNeg) :: st)) : Xg l M A Z E G cells slots mem pc lv (.int i :: .ref (gA G j) :: st) := by
  intro p e s m args below meth c H locs ls C hP hD hS hL
  exact va_zald C.1 C.2.1 C.2.2.2.2.2.2.2.2.1.1 hP j 1 (cA := (gC G).2.1) (n := n) (f := mem j) (by rw [wd_at hj]; exact congrArg (fun z => some (gA G j, z)) hc) rfl hin hdg (kk p e s m args below meth c H locs _ C hP hD hS hL)
theorem x_iast {n : Nat} {i v : Int32} (j : Nat) (hdg : decode M.2.1 pc = .ok (.iastore, 1)) (hj : j < gK G) (hc : ∀ r, cellR G j r = rI (gC G) n r) (hin : vp_in i n) (kk : Xg l M A Z E G cells slots (wr mem j i.toNatClampNeg v) (pc + 1) lv st) : Xg l M A Z E G cells slots mem pc lv (.int v :: .int i :: .ref (gA G j) :: st) := by
  intro p e s m args below meth c H locs ls C hP hD hS hL
  have hset' : (wd (gK G) (gA G) (cellOf G mem)).set j (gA G j, .inl ((gC G).1, n, .inl (upd (mem j) i.toNatClampNeg v))) = wd (gK G) (gA G) (cellOf G (wr mem j i.toNatClampNeg v)) :=
    wd_set hj (by show cellR G j (wr mem j _ v j) = _; rw [hc]; simp [wr, wrA, rI]) (fun q hq => by show cellR G q (wr mem j _ v q) = _; simp [wr, wrA, hq])
  exact va_iast C.1 C.2.1 C.2.2.2.2.2.2.2.2.1.1 hP hD hS j 0 (cA := (gC G).1) (n := n) (f := mem j) (by rw [wd_at hj]; exact congrArg (fun z => some (gA G j, z)) (hc _)) rfl hin hdg (fun H1 locs1 hP1 hD1 hS1 => kk p e s m args below meth c H1 locs1 _ C (by rw [← hset']; exact hP1) (by rw [← hset']; exact hD1) hS1 hL)
theorem x_zast {n : Nat} {i v : Int32} (j : Nat) (hdg : decode M.2.1 pc = .ok (.bastore, 1)) (hj : j < gK G) (hc : ∀ r, cellR G j r = rZ (gC G) n r) (hin : vp_in i n) (hv : v = 0 ∨ v = 1) (kk : Xg l M A Z E G cells slots (wr mem j i.toNatClampNeg v) (pc + 1) lv st) : Xg l M A Z E G cells slots mem pc lv (.int v :: .int i :: .ref (gA G j) :: st) := by
  intro p e s m args below meth c H locs ls C hP hD hS hL
  have hn : vp_nar .boolean v = v := by rcases hv with rfl | rfl <;> rfl
  have hset' : (wd (gK G) (gA G) (cellOf G mem)).set j (gA G j, .inl ((gC G).2.1, n, .inl (upd (mem j) i.toNatClampNeg v))) = wd (gK G) (gA G) (cellOf G (wr mem j i.toNatClampNeg v)) :=
    wd_set hj (by show cellR G j (wr mem j _ v j) = _; rw [hc]; simp [wr, wrA, rZ]) (fun q hq => by show cellR G q (wr mem j _ v q) = _; simp [wr, wrA, hq])
  exact va_zast C.1 C.2.1 C.2.2.2.2.2.2.2.2.1.1 hP hD hS j 1 (cA := (gC G).2.1) (n := n) (f := mem j) (by rw [wd_at hj]; exact congrArg (fun z => some (gA G j, z)) (hc _)) rfl hin hdg (fun H1 locs1 hP1 hD1 hS1 => kk p e s m args below meth c H1 locs1 _ C (by rw [← hset', ← hn]; exact hP1) (by rw [← hset', ← hn]; exact hD1) hS1 hL)
theorem x_aaldR {n : Nat} {i : Int32} {f : Nat → Option Nat} {v : Nat} (j : Nat) (hdg : decode M.2.1 pc = .ok (.aaload, 1)) (hj : j < gK G) (hc : cellR G j (mem j) = rR (gC G) n f) (hin : vp_in i n) (hv : f i.toNatClampNeg = some v) (kk : Xg l M A Z E G cells slots mem (pc + 1) lv (.ref v :: st)) : Xg l M A Z E G cells slots mem pc lv (.int i :: .ref (gA G j) :: st) := by
  intro p e s m args below meth c H locs ls C hP hD hS hL
  have hlt : i.toNatClampNeg < n := Nat.not_le.mp fun q => hin (Or.inr q)
  have hcell := hP j _ (wd_at hj)
  rw [show cellOf G mem j = rR (gC G) n f from hc] at hcell
  refine W.aald (v := .ref v) (ty := .array .int) C.1 C.2.1 hcell ((C.2.2.2.2.2.2.2.2.1.1.2 3 _ rfl).1 n (fun j => va_rf (f j))) rfl (fun q => by cases q) (by show ¬ (i < 0 ∨ (arrV _ _ _).slots.size ≤ _); rw [arrV_size]; exact hin) (by show (arrV _ _ _).slots[_]? = _; rw [arrV_read _ _ hlt, hv]; rfl) rfl rfl hdg (kk p e s m args below meth c H locs _ C hP hD hS hL)
theorem x_aaldF {n : Nat} {i : Int32} {f : Nat → Option Nat} {v : Nat} (j : Nat) (hdg : decode M.2.1 pc = .ok (.aaload, 1)) (hj : j < gK G) (hc : cellR G j (mem j) = rF (gC G) n f) (hin : vp_in i n) (hv : f i.toNatClampNeg = some v) (kk : Xg l M A Z E G cells slots mem (pc + 1) lv (.ref v :: st)) : Xg l M A Z E G cells slots mem pc lv (.int i :: .ref (gA G j) :: st) := by
  intro p e s m args below meth c H locs ls C hP hD hS hL
  have hlt : i.toNatClampNeg < n := Nat.not_le.mp fun q => hin (Or.inr q)
  have hcell := hP j _ (wd_at hj)
  rw [show cellOf G mem j = rF (gC G) n f from hc] at hcell
  refine W.aald (v := .ref v) (ty := .object RX1) C.1 C.2.1 hcell ((C.2.2.2.2.2.2.2.2.1.1.2 2 _ rfl).1 n (fun j => va_rf (f j))) rfl (fun q => by cases q) (by show ¬ (i < 0 ∨ (arrV _ _ _).slots.size ≤ _); rw [arrV_size]; exact hin) (by show (arrV _ _ _).slots[_]? = _; rw [arrV_read _ _ hlt, hv]; rfl) rfl rfl hdg (kk p e s m args below meth c H locs _ C hP hD hS hL)
theorem x_alen {n : Nat} {v : Int32} (j : Nat) (hdg : decode M.2.1 pc = .ok (.arraylength, 1)) (hj : j < gK G) (hc : cellR G j (mem j) = rI (gC G) n (mem j)) (hv : Int32.ofNat n = v) (kk : Xg l M A Z E G cells slots mem (pc + 1) lv (.int v :: st)) : Xg l M A Z E G cells slots mem pc lv (.ref (gA G j) :: st) := by
  intro p e s m args below meth c H locs ls C hP hD hS hL
  exact va_alen C.1 C.2.1 C.2.2.2.2.2.2.2.2.1.1 hP j 0 (cA := (gC G).1) (x := (n, .inl (mem j))) (by rw [wd_at hj]; exact congrArg (fun z => some (gA G j, z)) hc) rfl hv hdg (kk p e s m args below meth c H locs _ C hP hD hS hL)
theorem x_mmax {index : Nat} {x y : Int32} (hdg : decode M.2.1 pc = .ok (.invokestatic index, 3)) (hw : Cond.methodLink M.1.cls index Lib.Math.max.name ∈ TB) (h2 : Cond.static Lib.Math.max.name ∈ TB) (h3 : Cond.initialized "java/lang/Math" ∈ TB) (h4 : Cond.code Lib.Math.max.name Lib.Math.max.code 2 (some .int) ∈ TB) (hR : 1 ≤ M.2.2.2.2.frames ∧ (st.map fun v => v.category).sum + 13 ≤ M.2.2.2.2.locals ∧ cells ≤ M.2.2.2.2.cells ∧ slots ≤ M.2.2.2.2.slots) (kk : Xg l M A Z E G cells slots mem (pc + 3) lv (.int (if x < y then y else x) :: st)) : Xg l M A Z E G cells slots mem pc lv (.int y :: .int x :: st) := by
  intro p e s m args below meth c H locs ls C hP hD hS hL
  exact va_mmax C.1 C.2.1 (C.2.2.1.trans hL.1.symm) C.2.2.2.1 (C.2.2.2.2.1 _ hw) (C.2.2.2.2.1 _ h2) (C.2.2.2.2.1 _ h3) (C.2.2.2.2.1 _ h4) hR.1 hR.2.1 hR.2.2.1 hR.2.2.2 hdg (kk p e s m args below meth c H locs _ C hP hD hS hL)
theorem x_mmin {index : Nat} {x y : Int32} (hdg : decode M.2.1 pc = .ok (.invokestatic index, 3)) (hw : Cond.methodLink M.1.cls index Lib.Math.min.name ∈ TB) (h2 : Cond.static Lib.Math.min.name ∈ TB) (h3 : Cond.initialized "java/lang/Math" ∈ TB) (h4 : Cond.code Lib.Math.min.name Lib.Math.min.code 2 (some .int) ∈ TB) (hR : 1 ≤ M.2.2.2.2.frames ∧ (st.map fun v => v.category).sum + 13 ≤ M.2.2.2.2.locals ∧ cells ≤ M.2.2.2.2.cells ∧ slots ≤ M.2.2.2.2.slots) (kk : Xg l M A Z E G cells slots mem (pc + 3) lv (.int (if y < x then y else x) :: st)) : Xg l M A Z E G cells slots mem pc lv (.int y :: .int x :: st) := by
  intro p e s m args below meth c H locs ls C hP hD hS hL
  exact va_mmin C.1 C.2.1 (C.2.2.1.trans hL.1.symm) C.2.2.2.1 (C.2.2.2.2.1 _ hw) (C.2.2.2.2.1 _ h2) (C.2.2.2.2.1 _ h3) (C.2.2.2.2.1 _ h4) hR.1 hR.2.1 hR.2.2.1 hR.2.2.2 hdg (kk p e s m args below meth c H locs _ C hP hD hS hL)
theorem x_copy {index : Nat} {n0 n1 : Nat} {sp dp n : Int32} (j0 j1 : Nat) (hdg : decode M.2.1 pc = .ok (.invokestatic index, 3)) (hw : Cond.methodLink M.1.cls index arraycopyName ∈ TB) (h2 : Cond.native arraycopyName ∈ TB) (h3 : Cond.static arraycopyName ∈ TB) (h4 : Cond.initialized "java/lang/System" ∈ TB) (hj0 : j0 < gK G) (hj1 : j1 < gK G) (hc0 : cellR G j0 (mem j0) = rI (gC G) n0 (mem j0)) (hc1 : ∀ r, cellR G j1 r = rI (gC G) n1 r) (hb : ¬ sp < 0 ∧ ¬ dp < 0 ∧ ¬ n < 0 ∧ sp.toNatClampNeg + n.toNatClampNeg ≤ n0 ∧ dp.toNatClampNeg + n.toNatClampNeg ≤ n1) (hR : 1 ≤ M.2.2.2.2.frames ∧ (st.map fun v => v.category).sum + (nativeFrameWords "java/lang/System" "arraycopy" 5 + 11) ≤ M.2.2.2.2.locals) (kk : Xg l M A Z E G cells slots (wrA mem j1 (va_cpy (mem j0) (mem j1) sp.toNatClampNeg dp.toNatClampNeg n.toNatClampNeg)) (pc + 3) lv st) : Xg l M A Z E G cells slots mem pc lv (.int n :: .int dp :: .ref (gA G j1) :: .int sp :: .ref (gA G j0) :: st) := by
  intro p e s m args below meth c H locs ls C hP hD hS hL
  have hset' : (wd (gK G) (gA G) (cellOf G mem)).set j1 (gA G j1, .inl ((gC G).1, n1, .inl (va_cpy (mem j0) (mem j1) sp.toNatClampNeg dp.toNatClampNeg n.toNatClampNeg))) = wd (gK G) (gA G) (cellOf G (wrA mem j1 (va_cpy (mem j0) (mem j1) sp.toNatClampNeg dp.toNatClampNeg n.toNatClampNeg))) :=
    wd_set hj1 (by show cellR G j1 (wrA mem j1 _ j1) = _; rw [hc1]; simp [wrA, rI]) (fun q hq => by show cellR G q (wrA mem j1 _ q) = _; simp [wrA, hq])
  exact va_copyi C.1 C.2.1 (C.2.2.1.trans hL.1.symm) C.2.2.2.1 (C.2.2.2.2.1 _ hw) (C.2.2.2.2.1 _ h2) (C.2.2.2.2.1 _ h3) (C.2.2.2.2.1 _ h4) C.2.2.2.2.2.2.2.2.1.1 hP hD hS j0 j1 0 0 (c0 := (gC G).1) (c1 := (gC G).1) (n0 := n0) (n1 := n1) (f := mem j0) (g := mem j1) (ty := .int) (by rw [wd_at hj0]; exact congrArg (fun z => some (gA G j0, z)) hc0) (by rw [wd_at hj1]; exact congrArg (fun z => some (gA G j1, z)) (hc1 _)) rfl rfl rfl hb.1 hb.2.1 hb.2.2.1 hb.2.2.2.1 hb.2.2.2.2 (fun i _ => rfl) hR.1 hR.2 hdg (fun H1 locs1 hP1 hD1 hS1 => kk p e s m args below meth c H1 locs1 _ C (by rw [← hset']; exact hP1) (by rw [← hset']; exact hD1) hS1 hL)
end XR
end
section
/-! calls and returns -/
theorem Fr_sub {G : Gx} {A : Nat → Prop} {ct : Nat → va_E} {H0 H : Heap} {locs : List Loc} (hD : va_D A (wd (gK G) (gA G) ct)) (hS : va_S A H0 H locs) (hA : ∀ q, H0.size ≤ q → A q) : ∀ q, Fr G H.size q → A q := by
  intro q h
  rcases h with ⟨i, hi, rfl⟩ | h
  · exact hD.2 i _ (wd_at hi)
  · exact hA q (Nat.le_trans hS.1 h)
theorem Pm_blind {G : Gx} {mem : Mem} {sz : Nat} {As : List Value} : FrameBlind (va_Pc As (Pm G mem sz)) := by
  intro a U g mk q
  obtain ⟨q0, q1, qP, qK, qD⟩ := q
  exact ⟨q0, q1, qP, Kx.moved (u := U) (U := U.calling g mk a) (Vm.Alike.refl U.vm) qK, qD⟩
theorem gI_TB {Mc : MTy} (w5 : Cond.code Mc.1 Mc.2.1 Mc.2.2.1 Mc.2.2.2.1 ∈ TB) : GoodIn TB (wsM Mc) := by
  intro w h
  rcases List.mem_cons.mp h with rfl | h
  · exact ⟨w5, TB_good w5⟩
  · exact ⟨h, TB_good h⟩
/-- what the tables say of a method that is called on an object -/
def OkV (Mc : MTy) (C0 : String) (n : Nat) : Prop :=
  Cond.instanceMethod Mc.1 ∈ TB ∧ Cond.selects C0 Mc.1 Mc.1 ∈ TB ∧ Cond.initialized C0 ∈ TB ∧ Cond.code Mc.1 Mc.2.1 Mc.2.2.1 Mc.2.2.2.1 ∈ TB ∧ Mc.1.cls = C0 ∧ Mc.1.cls ≠ "java/lang/invoke/MethodHandle" ∧ Mc.1.cls ≠ "java/lang/invoke/VarHandle" ∧ (parseMethodDescriptor Mc.1.desc).map (fun d => d.parameters.length) = some n
def OkS (Mc : MTy) (n : Nat) : Prop :=
  Cond.static Mc.1 ∈ TB ∧ Cond.initialized Mc.1.cls ∈ TB ∧ Cond.code Mc.1 Mc.2.1 Mc.2.2.1 Mc.2.2.2.1 ∈ TB ∧ Mc.1.cls ≠ "java/lang/invoke/MethodHandle" ∧ Mc.1.cls ≠ "java/lang/invoke/VarHandle" ∧ (parseMethodDescriptor Mc.1.desc).map (fun d => d.parameters.length) = some n
def OkI (Mc : MTy) (n : Nat) : Prop :=
  Cond.instanceMethod Mc.1 ∈ TB ∧ Cond.initialized Mc.1.cls ∈ TB ∧ Cond.code Mc.1 Mc.2.1 Mc.2.2.1 none ∈ TB ∧ Mc.2.2.2.1 = none ∧ Mc.1.name = "<init>" ∧ Mc.1.cls ≠ "java/lang/invoke/MethodHandle" ∧ Mc.1.cls ≠ "java/lang/invoke/VarHandle" ∧ (parseMethodDescriptor Mc.1.desc).map (fun d => d.parameters.length) = some n
/-- the callee's room fits the caller's -/
def RmOk (Mc M : MTy) (mc ms cells slots : Nat) : Prop :=
  (Mc.2.2.2.2.cells = mc ∧ Mc.2.2.2.2.slots = ms) ∧ (Mc.2.2.2.2.frames + 1 ≤ M.2.2.2.2.frames ∧ 8 + (Mc.2.2.1 + 11) + Mc.2.2.2.2.locals ≤ M.2.2.2.2.locals) ∧ cells + mc ≤ M.2.2.2.2.cells ∧ slots + ms ≤ M.2.2.2.2.slots
section XC
variable {l : Launch} {M : MTy} {A : State → Nat → Prop} {Z : List Frame → Array Value → State → State → Prop} {E : Array Value → State → Prop} {G : Gx} {cells slots : Nat} {mem : Mem} {pc : Nat} {lv : Lv} {st : List Value}
theorem x_run {p : Program} {e : Env} {R : Room} {s : State} {m : MethodId} {args : Array Value} {below : List Frame} {meth : Method} {c : Code} {H : Heap} {locs : List Loc} {Q : State → Prop} {ls : Array Slot} {rest st0 : List Value} {a : Array Value} {A0 : Nat → Prop} {H0 : Heap} {mc ms : Nat} {P : Option Value → Gx → Mem → Prop} {ct : Nat → va_E}
    (hr : va_Run p l e R s m args below meth c H locs cells slots mc ms (F0 m pc ls st0) rest (Qm G P H.size a) (Fr G H.size)) (hD : va_D A0 (wd (gK G) (gA G) ct)) (hS : va_S A0 H0 H locs) (hA : ∀ q, H0.size ≤ q → A0 q)
    (kk : ∀ (o : Option Value) (G' : Gx) (mem' : Mem) (H1 : Heap) (locs1 : List Loc), P o G' mem' → gD G' = gD G → gC G' = gC G → va_P (gD G) vwCl (wd (gK G') (gA G') (cellOf G' mem')) H1 → va_D A0 (wd (gK G') (gA G') (cellOf G' mem')) → va_S A0 H0 H1 locs1 → W p l e R s m args below meth c H1 locs1 (cells + mc) (slots + ms) Q (F0 m (pc + 3) ls (o.toList ++ rest))) : W p l e R s m args below meth c H locs cells slots Q (F0 m pc ls st0) := by
  have hF := Fr_sub hD hS hA
  intro T hT X
  obtain ⟨v, st₀, t, T', L, h0, X', hL, e1, e2, ⟨⟨o, G', mem', hv, hp, hd1, hd2, hP1, hD1⟩, hz, hk⟩, st⟩ := hr T hT X
  cases hv
  rw [h0] at hz hk
  obtain ⟨t2, a1, b1⟩ := kk v G' mem' T'.heap (locs ++ L) hp hd1 hd2 (by rw [e1]; exact hP1) (hD1.weaken (fun _ q _ h => hF q.1 h))
    ⟨Nat.le_trans hS.1 (by rw [e1]; exact hz), fun q h1 h2 => by rw [e1, hk q (Nat.lt_of_lt_of_le h1 hS.1) (fun z => h2 (hF q z))]; exact hS.2.1 q h1 h2, fun q hq => by
      rcases List.mem_append.mp hq with h | h
      · exact hS.2.2 q h
      · exact hF _ (hL q h)⟩ T' rfl X'
  exact ⟨t2, st t2 a1, b1⟩
theorem x_callV {Mc : MTy} {mc ms index ci n N : Nat} {As rest fs : List Value} {C0 : String} {T : u_T} {P : Option Value → Gx → Mem → Prop} (j : Nat) (hct : Ctg l Mc G mc ms (.ref (gA G j) :: As) mem P) (hok : OkV Mc C0 n) (hdg : decode M.2.1 pc = .ok (.invokevirtual index, 3)) (w1 : Cond.methodLink M.1.cls index Mc.1 ∈ TB) (hrm : RmOk Mc M mc ms cells slots)
    (hj : j < gK G) (hc : cellR G j (mem j) = .inr (ci, fs)) (hcl : vwCl[ci]? = some (C0, T, N)) (hn : As.length = n) (hst : st = As.reverse ++ .ref (gA G j) :: rest) (hcat : (rest.map fun v => v.category).sum ≤ 8)
    (kk : ∀ (o : Option Value) (G' : Gx) (mem' : Mem), P o G' mem' → gD G' = gD G → gC G' = gC G → Xg l M A Z E G' (cells + mc) (slots + ms) mem' (pc + 3) lv (o.toList ++ rest)) : Xg l M A Z E G cells slots mem pc lv st := by
  intro p e s m args below meth c H locs ls C hP hD hS hL
  obtain ⟨w2, w3, w4, w5, hy⟩ := hok
  have hT : GoodIn TB (wsV M.1.cls index C0 Mc.1 (wsM Mc)) := by
    intro w h
    rcases List.mem_append.mp h with h | h
    · have : w = Cond.methodLink M.1.cls index Mc.1 ∨ w = Cond.instanceMethod Mc.1 ∨ w = Cond.selects C0 Mc.1 Mc.1 ∨ w = Cond.initialized C0 := by simpa using h
      rcases this with rfl | rfl | rfl | rfl
      · exact ⟨w1, TB_good w1⟩
      · exact ⟨w2, TB_good w2⟩
      · exact ⟨w3, TB_good w3⟩
      · exact ⟨w4, TB_good w4⟩
    · exact gI_TB w5 w h
  have hrun := va_runV (p := p) (e := e) (R := M.2.2.2.2) (below := below) (meth := meth) (H := H) (locs := locs) (cells := cells) (slots := slots) (g := F0 m pc ls st) (b := gA G j) (As := As) (rest := rest) (S := ⟨C.1, C.2.1, C.2.2.1, C.2.2.2.1, C.2.2.2.2.1⟩) (hM := hct H.size) (cw := cwV n C.2.2.2.2.1 hT rfl hrm.1.1 hrm.1.2 hy hrm.2.1)
    ⟨Pm_blind, va_recv C.2.2.2.2.2.2.2.2.1.1 hP (ci := ci) (q0 := j) hcl (by rw [wd_at hj]; exact congrArg (fun z => some (gA G j, z)) hc), fun U hU hW => ⟨rfl, by rw [hU], by rw [hU]; exact hP, Kx.moved hW.alike C.2.2.2.2.2.2.2.2.1, hD.weaken (fun _ _ _ _ => trivial)⟩⟩ rfl hn hL.1 hst (lv_room hcat) hdg hrm.2.2
  exact x_run hrun hD hS C.2.2.2.2.2.2.2.2.2.1 (fun o G' mem' H1 locs1 hp hd1 hd2 hP1 hD1 hS1 => kk o G' mem' hp hd1 hd2 p e s m args below meth c H1 locs1 ls (by unfold Cx Kx at C ⊢; rw [hd1, hd2]; exact C) (by rw [hd1]; exact hP1) hD1 hS1 hL)
theorem x_callS {Mc : MTy} {mc ms index n : Nat} {As rest : List Value} {P : Option Value → Gx → Mem → Prop} (hct : Ctg l Mc G mc ms As mem P) (hok : OkS Mc n) (hdg : decode M.2.1 pc = .ok (.invokestatic index, 3)) (w1 : Cond.methodLink M.1.cls index Mc.1 ∈ TB) (hrm : RmOk Mc M mc ms cells slots)
    (hn : As.length = n) (hst : st = As.reverse ++ rest) (hcat : (rest.map fun v => v.category).sum ≤ 8)
    (kk : ∀ (o : Option Value) (G' : Gx) (mem' : Mem), P o G' mem' → gD G' = gD G → gC G' = gC G → Xg l M A Z E G' (cells + mc) (slots + ms) mem' (pc + 3) lv (o.toList ++ rest)) : Xg l M A Z E G cells slots mem pc lv st := by
  intro p e s m args below meth c H locs ls C hP hD hS hL
  obtain ⟨w2, w4, w5, hy⟩ := hok
  have hrun := va_runS (p := p) (e := e) (R := M.2.2.2.2) (below := below) (meth := meth) (H := H) (locs := locs) (cells := cells) (slots := slots) (g := F0 m pc ls st) (As := As) (rest := rest) (S := ⟨C.1, C.2.1, C.2.2.1, C.2.2.2.1, C.2.2.2.2.1⟩) (hM := hct H.size) (cw := ⟨callB_of n C.2.2.2.2.1 (gI_TB w5) rfl hrm.1.1 hrm.1.2 (C.2.2.2.2.1 _ w4) (C.2.2.2.2.1 _ w1) hy hrm.2.1, C.2.2.2.2.1 _ w2⟩)
    ⟨Pm_blind, fun U hU hW => ⟨rfl, by rw [hU], by rw [hU]; exact hP, Kx.moved hW.alike C.2.2.2.2.2.2.2.2.1, hD.weaken (fun _ _ _ _ => trivial)⟩⟩ rfl hn hL.1 hst (lv_room hcat) hdg hrm.2.2
  exact x_run hrun hD hS C.2.2.2.2.2.2.2.2.2.1 (fun o G' mem' H1 locs1 hp hd1 hd2 hP1 hD1 hS1 => kk o G' mem' hp hd1 hd2 p e s m args below meth c H1 locs1 ls (by unfold Cx Kx at C ⊢; rw [hd1, hd2]; exact C) (by rw [hd1]; exact hP1) hD1 hS1 hL)
theorem x_callI {Mc : MTy} {mc ms index n : Nat} {As rest : List Value} {P : Option Value → Gx → Mem → Prop} (j : Nat) (hct : Ctg l Mc G mc ms (.ref (gA G j) :: As) mem P) (hok : OkI Mc n) (hdg : decode M.2.1 pc = .ok (.invokespecial index, 3)) (w1 : Cond.methodLink M.1.cls index Mc.1 ∈ TB) (hrm : RmOk Mc M mc ms cells slots)
    (hn : As.length = n) (hst : st = As.reverse ++ .ref (gA G j) :: rest) (hcat : (rest.map fun v => v.category).sum ≤ 8)
    (kk : ∀ (o : Option Value) (G' : Gx) (mem' : Mem), P o G' mem' → gD G' = gD G → gC G' = gC G → Xg l M A Z E G' (cells + mc) (slots + ms) mem' (pc + 3) lv (o.toList ++ rest)) : Xg l M A Z E G cells slots mem pc lv st := by
  intro p e s m args below meth c H locs ls C hP hD hS hL
  obtain ⟨w2, w4, w5, hret, hnm, hy⟩ := hok
  have w5' : Cond.code Mc.1 Mc.2.1 Mc.2.2.1 Mc.2.2.2.1 ∈ TB := by rw [hret]; exact w5
  have hrun := va_runI (p := p) (e := e) (R := M.2.2.2.2) (below := below) (meth := meth) (H := H) (locs := locs) (cells := cells) (slots := slots) (g := F0 m pc ls st) (b := gA G j) (As := As) (rest := rest) (S := ⟨C.1, C.2.1, C.2.2.1, C.2.2.2.1, C.2.2.2.2.1⟩) (hM := hct H.size) (cw := cwI n C.2.2.2.2.1 (gI_TB w5') (by rw [wsM, hret]) hrm.1.1 hrm.1.2 (C.2.2.2.2.1 _ w4) (C.2.2.2.2.1 _ w1) (C.2.2.2.2.1 _ w2) hnm hy hrm.2.1)
    ⟨Pm_blind, fun U hU hW => ⟨rfl, by rw [hU], by rw [hU]; exact hP, Kx.moved hW.alike C.2.2.2.2.2.2.2.2.1, hD.weaken (fun _ _ _ _ => trivial)⟩⟩ rfl hn hL.1 hst (lv_room hcat) hdg hrm.2.2
  exact x_run hrun hD hS C.2.2.2.2.2.2.2.2.2.1 (fun o G' mem' H1 locs1 hp hd1 hd2 hP1 hD1 hS1 => kk o G' mem' hp hd1 hd2 p e s m args below meth c H1 locs1 ls (by unfold Cx Kx at C ⊢; rw [hd1, hd2]; exact C) (by rw [hd1]; exact hP1) hD1 hS1 hL)
/-- calls of methods that make no cells -/
theorem x_callVI {Mc : MTy} {index ci n N : Nat} {As rest fs : List Value} {C0 : String} {T : u_T} {P : Int32 → Mem → Prop} (j : Nat) (hct : CtI l Mc G (.ref (gA G j) :: As) mem P) (hok : OkV Mc C0 n) (hdg : decode M.2.1 pc = .ok (.invokevirtual index, 3)) (w1 : Cond.methodLink M.1.cls index Mc.1 ∈ TB) (hrm : RmOk Mc M 0 0 cells slots) (hj : j < gK G) (hc : cellR G j (mem j) = .inr (ci, fs)) (hcl : vwCl[ci]? = some (C0, T, N)) (hn : As.length = n) (hst : st = As.reverse ++ .ref (gA G j) :: rest) (hcat : (rest.map fun v => v.category).sum ≤ 8)
    (kk : ∀ (r : Int32) (mem' : Mem), P r mem' → Xg l M A Z E G cells slots mem' (pc + 3) lv (.int r :: rest)) : Xg l M A Z E G cells slots mem pc lv st := by
  refine x_callV j hct hok hdg w1 hrm hj hc hcl hn hst hcat (fun o G' mem' h _ _ => ?_)
  obtain ⟨rfl, r, rfl, h⟩ := h
  exact kk r mem' h
theorem x_callVL {Mc : MTy} {index ci n N : Nat} {As rest fs : List Value} {C0 : String} {T : u_T} {P : Int64 → Mem → Prop} (j : Nat) (hct : CtL l Mc G (.ref (gA G j) :: As) mem P) (hok : OkV Mc C0 n) (hdg : decode M.2.1 pc = .ok (.invokevirtual index, 3)) (w1 : Cond.methodLink M.1.cls index Mc.1 ∈ TB) (hrm : RmOk Mc M 0 0 cells slots) (hj : j < gK G) (hc : cellR G j (mem j) = .inr (ci, fs)) (hcl : vwCl[ci]? = some (C0, T, N)) (hn : As.length = n) (hst : st = As.reverse ++ .ref (gA G j) :: rest) (hcat : (rest.map fun v => v.category).sum ≤ 8)
    (kk : ∀ (r : Int64) (mem' : Mem), P r mem' → Xg l M A Z E G cells slots mem' (pc + 3) lv (.long r :: rest)) : Xg l M A Z E G cells slots mem pc lv st := by
  refine x_callV j hct hok hdg w1 hrm hj hc hcl hn hst hcat (fun o G' mem' h _ _ => ?_)
  obtain ⟨rfl, r, rfl, h⟩ := h
  exact kk r mem' h
theorem x_callVV {Mc : MTy} {index ci n N : Nat} {As rest fs : List Value} {C0 : String} {T : u_T} {P : Mem → Prop} (j : Nat) (hct : CtV l Mc G (.ref (gA G j) :: As) mem P) (hok : OkV Mc C0 n) (hdg : decode M.2.1 pc = .ok (.invokevirtual index, 3)) (w1 : Cond.methodLink M.1.cls index Mc.1 ∈ TB) (hrm : RmOk Mc M 0 0 cells slots) (hj : j < gK G) (hc : cellR G j (mem j) = .inr (ci, fs)) (hcl : vwCl[ci]? = some (C0, T, N)) (hn : As.length = n) (hst : st = As.reverse ++ .ref (gA G j) :: rest) (hcat : (rest.map fun v => v.category).sum ≤ 8)
    (kk : ∀ (mem' : Mem), P mem' → Xg l M A Z E G cells slots mem' (pc + 3) lv rest) : Xg l M A Z E G cells slots mem pc lv st := by
  refine x_callV j hct hok hdg w1 hrm hj hc hcl hn hst hcat (fun o G' mem' h _ _ => ?_)
  obtain ⟨rfl, rfl, h⟩ := h
  exact kk mem' h
theorem x_callSI {Mc : MTy} {index n : Nat} {As rest : List Value} {P : Int32 → Mem → Prop} (hct : CtI l Mc G As mem P) (hok : OkS Mc n) (hdg : decode M.2.1 pc = .ok (.invokestatic index, 3)) (w1 : Cond.methodLink M.1.cls index Mc.1 ∈ TB) (hrm : RmOk Mc M 0 0 cells slots) (hn : As.length = n) (hst : st = As.reverse ++ rest) (hcat : (rest.map fun v => v.category).sum ≤ 8)
    (kk : ∀ (r : Int32) (mem' : Mem), P r mem' → Xg l M A Z E G cells slots mem' (pc + 3) lv (.int r :: rest)) : Xg l M A Z E G cells slots mem pc lv st := by
  refine x_callS hct hok hdg w1 hrm hn hst hcat (fun o G' mem' h _ _ => ?_)
  obtain ⟨rfl, r, rfl, h⟩ := h
  exact kk r mem' h
theorem x_callSL {Mc : MTy} {index n : Nat} {As rest : List Value} {P : Int64 → Mem → Prop} (hct : CtL l Mc G As mem P) (hok : OkS Mc n) (hdg : decode M.2.1 pc = .ok (.invokestatic index, 3)) (w1 : Cond.methodLink M.1.cls index Mc.1 ∈ TB) (hrm : RmOk Mc M 0 0 cells slots) (hn : As.length = n) (hst : st = As.reverse ++ rest) (hcat : (rest.map fun v => v.category).sum ≤ 8)
    (kk : ∀ (r : Int64) (mem' : Mem), P r mem' → Xg l M A Z E G cells slots mem' (pc + 3) lv (.long r :: rest)) : Xg l M A Z E G cells slots mem pc lv st := by
  refine x_callS hct hok hdg w1 hrm hn hst hcat (fun o G' mem' h _ _ => ?_)
  obtain ⟨rfl, r, rfl, h⟩ := h
  exact kk r mem' h
theorem x_callSV {Mc : MTy} {index n : Nat} {As rest : List Value} {P : Mem → Prop} (hct : CtV l Mc G As mem P) (hok : OkS Mc n) (hdg : decode M.2.1 pc = .ok (.invokestatic index, 3)) (w1 : Cond.methodLink M.1.cls index Mc.1 ∈ TB) (hrm : RmOk Mc M 0 0 cells slots) (hn : As.length = n) (hst : st = As.reverse ++ rest) (hcat : (rest.map fun v => v.category).sum ≤ 8)
    (kk : ∀ (mem' : Mem), P mem' → Xg l M A Z E G cells slots mem' (pc + 3) lv rest) : Xg l M A Z E G cells slots mem pc lv st := by
  refine x_callS hct hok hdg w1 hrm hn hst hcat (fun o G' mem' h _ _ => ?_)
  obtain ⟨rfl, rfl, h⟩ := h
  exact kk mem' h
end XC
section XE
variable {l : Launch} {M : MTy} {G0 G : Gx} {mc ms : Nat} {mem : Mem} {pc : Nat} {lv : Lv}
theorem Qm_of {P : Option Value → Gx → Mem → Prop} {o : Option Value} {s t : State} {args : Array Value} {H : Heap} {locs : List Loc} (h : P o G mem) (hd : gD G = gD G0) (hc : gC G = gC G0) (hP : va_P (gD G) vwCl (wd (gK G) (gA G) (cellOf G mem)) H) (hD : va_D (Fr G0 s.heap.size) (wd (gK G) (gA G) (cellOf G mem))) (hS : va_S (Fr G0 s.heap.size) s.heap H locs) (ht : t.heap = H) : Qm G0 P s.heap.size args s (.returned o) t :=
  ⟨⟨o, G, mem, rfl, h, hd, hc, by rw [ht, ← hd]; exact hP, hD⟩, hS.F ht⟩
theorem x_iret {P : Option Value → Gx → Mem → Prop} {v : Int32} (hdg : decode M.2.1 pc = .ok (.ireturn, 1)) (hr : M.2.2.2.1 = some .int) (hd : gD G = gD G0) (hc : gC G = gC G0) (h : P (some (.int v)) G mem) : Xm l M G0 mc ms P G mc ms mem pc lv [.int v] := by
  intro p e s m args below meth c H locs ls C hP hD hS hL
  exact W.iret C.1 C.2.1 (C.2.2.2.2.2.1.trans hr) (fun t ht _ => Qm_of h hd hc hP hD hS ht) hS.2.2 hdg C.2.2.2.2.2.2.1
theorem x_zret {P : Option Value → Gx → Mem → Prop} {v : Int32} (hdg : decode M.2.1 pc = .ok (.ireturn, 1)) (hr : M.2.2.2.1 = some .boolean) (hd : gD G = gD G0) (hc : gC G = gC G0) (hv : v = 0 ∨ v = 1) (h : P (some (.int v)) G mem) : Xm l M G0 mc ms P G mc ms mem pc lv [.int v] := by
  intro p e s m args below meth c H locs ls C hP hD hS hL
  exact W.zret C.1 C.2.1 (C.2.2.2.2.2.1.trans hr) (by rcases hv with rfl | rfl <;> rfl) (fun t ht _ => Qm_of h hd hc hP hD hS ht) hS.2.2 hdg C.2.2.2.2.2.2.1
theorem x_lret {P : Option Value → Gx → Mem → Prop} {v : Int64} (hdg : decode M.2.1 pc = .ok (.lreturn, 1)) (hr : M.2.2.2.1 = some .long) (hd : gD G = gD G0) (hc : gC G = gC G0) (h : P (some (.long v)) G mem) : Xm l M G0 mc ms P G mc ms mem pc lv [.long v] := by
  intro p e s m args below meth c H locs ls C hP hD hS hL
  exact W.lret C.1 C.2.1 (C.2.2.2.2.2.1.trans hr) (fun t ht _ => Qm_of h hd hc hP hD hS ht) hS.2.2 hdg C.2.2.2.2.2.2.1
theorem x_vret {P : Option Value → Gx → Mem → Prop} (hdg : decode M.2.1 pc = .ok (.return_, 1)) (hr : M.2.2.2.1 = none) (hd : gD G = gD G0) (hc : gC G = gC G0) (h : P none G mem) : Xm l M G0 mc ms P G mc ms mem pc lv [] := by
  intro p e s m args below meth c H locs ls C hP hD hS hL
  exact W.vret C.1 C.2.1 (C.2.2.2.2.2.1.trans hr) (fun t ht _ => Qm_of h hd hc hP hD hS ht) hS.2.2 hdg C.2.2.2.2.2.2.1
/-- the ends of methods that make no cells -/
theorem x_endI {P : Int32 → Mem → Prop} {v : Int32} (hdg : decode M.2.1 pc = .ok (.ireturn, 1)) (hr : M.2.2.2.1 = some .int) (h : P v mem) : XI l M G P mem pc lv [.int v] := x_iret hdg hr rfl rfl ⟨rfl, v, rfl, h⟩
theorem x_endZ {P : Int32 → Mem → Prop} {v : Int32} (hdg : decode M.2.1 pc = .ok (.ireturn, 1)) (hr : M.2.2.2.1 = some .boolean) (hv : v = 0 ∨ v = 1) (h : P v mem) : XI l M G P mem pc lv [.int v] := x_zret hdg hr rfl rfl hv ⟨rfl, v, rfl, h⟩
theorem x_endL {P : Int64 → Mem → Prop} {v : Int64} (hdg : decode M.2.1 pc = .ok (.lreturn, 1)) (hr : M.2.2.2.1 = some .long) (h : P v mem) : XL l M G P mem pc lv [.long v] := x_lret hdg hr rfl rfl ⟨rfl, v, rfl, h⟩
theorem x_endV {P : Mem → Prop} (hdg : decode M.2.1 pc = .ok (.return_, 1)) (hr : M.2.2.2.1 = none) (h : P mem) : XV l M G P mem pc lv [] := x_vret hdg hr rfl rfl ⟨rfl, rfl, h⟩
end XE
theorem CtI.mono {l : Launch} {M : MTy} {G : Gx} {As : List Value} {mem : Mem} {P P' : Int32 → Mem → Prop} (h : CtI l M G As mem P) (hp : ∀ r m', P r m' → P' r m') : CtI l M G As mem P' := Ctg.mono h (fun _ _ _ ⟨a, r, b, c⟩ => ⟨a, r, b, hp _ _ c⟩)
theorem CtL.mono {l : Launch} {M : MTy} {G : Gx} {As : List Value} {mem : Mem} {P P' : Int64 → Mem → Prop} (h : CtL l M G As mem P) (hp : ∀ r m', P r m' → P' r m') : CtL l M G As mem P' := Ctg.mono h (fun _ _ _ ⟨a, r, b, c⟩ => ⟨a, r, b, hp _ _ c⟩)
theorem CtV.mono {l : Launch} {M : MTy} {G : Gx} {As : List Value} {mem : Mem} {P P' : Mem → Prop} (h : CtV l M G As mem P) (hp : ∀ m', P m' → P' m') : CtV l M G As mem P' := Ctg.mono h (fun _ _ _ ⟨a, b, c⟩ => ⟨a, b, hp _ c⟩)
end
section
theorem tb_0 : (Jvm.Cond.selects "WeightedForest$Survey" ({ cls := "WeightedForest$Survey", name := "extendOver", desc := "(II)V" } : Jvm.MethodName) ({ cls := "WeightedForest$Survey", name := "extendOver", desc := "(II)V" } : Jvm.MethodName)) ∈ TB := TB_in 0 (by decide +kernel) (by decide +kernel)
theorem tb_1 : (Jvm.Cond.selects "WeightedForest$Survey" ({ cls := "WeightedForest$Survey", name := "stepToward", desc := "(II)I" } : Jvm.MethodName) ({ cls := "WeightedForest$Survey", name := "stepToward", desc := "(II)I" } : Jvm.MethodName)) ∈ TB := TB_in 1 (by decide +kernel) (by decide +kernel)
theorem tb_2 : (Jvm.Cond.selects "WeightedForest$Survey" ({ cls := "WeightedForest$Survey", name := "onPath", desc := "(III)Z" } : Jvm.MethodName) ({ cls := "WeightedForest$Survey", name := "onPath", desc := "(III)Z" } : Jvm.MethodName)) ∈ TB := TB_in 2 (by decide +kernel) (by decide +kernel)
theorem tb_3 : (Jvm.Cond.selects "WeightedForest$Contraction" ({ cls := "WeightedForest$Contraction", name := "copyEdges", desc := "(LWeightedForest$Forest;)V" } : Jvm.MethodName) ({ cls := "WeightedForest$Contraction", name := "copyEdges", desc := "(LWeightedForest$Forest;)V" } : Jvm.MethodName)) ∈ TB := TB_in 3 (by decide +kernel) (by decide +kernel)
theorem tb_4 : (Jvm.Cond.selects "WeightedForest$Contraction" ({ cls := "WeightedForest$Contraction", name := "gatherTree", desc := "(I)V" } : Jvm.MethodName) ({ cls := "WeightedForest$Contraction", name := "gatherTree", desc := "(I)V" } : Jvm.MethodName)) ∈ TB := TB_in 4 (by decide +kernel) (by decide +kernel)
theorem tb_5 : (Jvm.Cond.selects "WeightedForest$Contraction" ({ cls := "WeightedForest$Contraction", name := "isVertex", desc := "(I)Z" } : Jvm.MethodName) ({ cls := "WeightedForest$Contraction", name := "isVertex", desc := "(I)Z" } : Jvm.MethodName)) ∈ TB := TB_in 5 (by decide +kernel) (by decide +kernel)
theorem tb_6 : (Jvm.Cond.selects "WeightedForest$Contraction" ({ cls := "WeightedForest$Contraction", name := "gatherNeighbours", desc := "()V" } : Jvm.MethodName) ({ cls := "WeightedForest$Contraction", name := "gatherNeighbours", desc := "()V" } : Jvm.MethodName)) ∈ TB := TB_in 6 (by decide +kernel) (by decide +kernel)
theorem tb_7 : (Jvm.Cond.selects "WeightedForest$Contraction" ({ cls := "WeightedForest$Contraction", name := "rake", desc := "()V" } : Jvm.MethodName) ({ cls := "WeightedForest$Contraction", name := "rake", desc := "()V" } : Jvm.MethodName)) ∈ TB := TB_in 7 (by decide +kernel) (by decide +kernel)
theorem tb_8 : (Jvm.Cond.selects "WeightedForest$Contraction" ({ cls := "WeightedForest$Contraction", name := "removeGreatest", desc := "()V" } : Jvm.MethodName) ({ cls := "WeightedForest$Contraction", name := "removeGreatest", desc := "()V" } : Jvm.MethodName)) ∈ TB := TB_in 8 (by decide +kernel) (by decide +kernel)
theorem tb_9 : (Jvm.Cond.selects "WeightedForest$Contraction" ({ cls := "WeightedForest$Contraction", name := "remove", desc := "(I)V" } : Jvm.MethodName) ({ cls := "WeightedForest$Contraction", name := "remove", desc := "(I)V" } : Jvm.MethodName)) ∈ TB := TB_in 9 (by decide +kernel) (by decide +kernel)
theorem tb_10 : (Jvm.Cond.selects "WeightedForest$Contraction" ({ cls := "WeightedForest$Contraction", name := "degreeOf", desc := "(I)I" } : Jvm.MethodName) ({ cls := "WeightedForest$Contraction", name := "degreeOf", desc := "(I)I" } : Jvm.MethodName)) ∈ TB := TB_in 10 (by decide +kernel) (by decide +kernel)
theorem tb_11 : (Jvm.Cond.selects "WeightedForest$Contraction" ({ cls := "WeightedForest$Contraction", name := "compress", desc := "()V" } : Jvm.MethodName) ({ cls := "WeightedForest$Contraction", name := "compress", desc := "()V" } : Jvm.MethodName)) ∈ TB := TB_in 11 (by decide +kernel) (by decide +kernel)
theorem tb_12 : (Jvm.Cond.selects "WeightedForest$Contraction" ({ cls := "WeightedForest$Contraction", name := "makeEdgesOld", desc := "()V" } : Jvm.MethodName) ({ cls := "WeightedForest$Contraction", name := "makeEdgesOld", desc := "()V" } : Jvm.MethodName)) ∈ TB := TB_in 12 (by decide +kernel) (by decide +kernel)
theorem tb_13 : (Jvm.Cond.selects "WeightedForest$Contraction" ({ cls := "WeightedForest$Contraction", name := "bypass", desc := "(I)V" } : Jvm.MethodName) ({ cls := "WeightedForest$Contraction", name := "bypass", desc := "(I)V" } : Jvm.MethodName)) ∈ TB := TB_in 13 (by decide +kernel) (by decide +kernel)
theorem tb_14 : (Jvm.Cond.selects "WeightedForest$Contraction" ({ cls := "WeightedForest$Contraction", name := "neighbourAfter", desc := "(II)I" } : Jvm.MethodName) ({ cls := "WeightedForest$Contraction", name := "neighbourAfter", desc := "(II)I" } : Jvm.MethodName)) ∈ TB := TB_in 14 (by decide +kernel) (by decide +kernel)
theorem tb_15 : (Jvm.Cond.selects "WeightedForest$Survey" ({ cls := "WeightedForest$Survey", name := "heavierPart", desc := "(II)I" } : Jvm.MethodName) ({ cls := "WeightedForest$Survey", name := "heavierPart", desc := "(II)I" } : Jvm.MethodName)) ∈ TB := TB_in 15 (by decide +kernel) (by decide +kernel)
theorem tb_16 : (Jvm.Cond.selects "WeightedForest$Survey" ({ cls := "WeightedForest$Survey", name := "chanceOfPath", desc := "(III)J" } : Jvm.MethodName) ({ cls := "WeightedForest$Survey", name := "chanceOfPath", desc := "(III)J" } : Jvm.MethodName)) ∈ TB := TB_in 16 (by decide +kernel) (by decide +kernel)
theorem tb_17 : (Jvm.Cond.selects "WeightedForest" ({ cls := "WeightedForest", name := "obeys", desc := "(I)Z" } : Jvm.MethodName) ({ cls := "WeightedForest", name := "obeys", desc := "(I)Z" } : Jvm.MethodName)) ∈ TB := TB_in 17 (by decide +kernel) (by decide +kernel)
theorem tb_18 : (Jvm.Cond.selects "WeightedForest" ({ cls := "WeightedForest", name := "triesLink", desc := "(II)Z" } : Jvm.MethodName) ({ cls := "WeightedForest", name := "triesLink", desc := "(II)Z" } : Jvm.MethodName)) ∈ TB := TB_in 18 (by decide +kernel) (by decide +kernel)
theorem tb_19 : (Jvm.Cond.selects "WeightedForest" ({ cls := "WeightedForest", name := "triesCut", desc := "(II)Z" } : Jvm.MethodName) ({ cls := "WeightedForest", name := "triesCut", desc := "(II)Z" } : Jvm.MethodName)) ∈ TB := TB_in 19 (by decide +kernel) (by decide +kernel)
theorem tb_20 : (Jvm.Cond.selects "WeightedForest" ({ cls := "WeightedForest", name := "joinedInTrial", desc := "(II)Z" } : Jvm.MethodName) ({ cls := "WeightedForest", name := "joinedInTrial", desc := "(II)Z" } : Jvm.MethodName)) ∈ TB := TB_in 20 (by decide +kernel) (by decide +kernel)
theorem tb_21 : (Jvm.Cond.selects "WeightedForest" ({ cls := "WeightedForest", name := "leavesEarlier", desc := "(II)Z" } : Jvm.MethodName) ({ cls := "WeightedForest", name := "leavesEarlier", desc := "(II)Z" } : Jvm.MethodName)) ∈ TB := TB_in 21 (by decide +kernel) (by decide +kernel)
theorem tb_22 : (Jvm.Cond.selects "WeightedForest" ({ cls := "WeightedForest", name := "changeTrial", desc := "(I)V" } : Jvm.MethodName) ({ cls := "WeightedForest", name := "changeTrial", desc := "(I)V" } : Jvm.MethodName)) ∈ TB := TB_in 22 (by decide +kernel) (by decide +kernel)
theorem tb_23 : (Jvm.Cond.selects "WeightedForest$SetupText" ({ cls := "WeightedForest$SetupText", name := "take", desc := "(II)I" } : Jvm.MethodName) ({ cls := "WeightedForest$SetupText", name := "take", desc := "(II)I" } : Jvm.MethodName)) ∈ TB := TB_in 23 (by decide +kernel) (by decide +kernel)
theorem tb_24 : (Jvm.Cond.selects "WeightedForest$SetupText" ({ cls := "WeightedForest$SetupText", name := "takeNumber", desc := "(II)I" } : Jvm.MethodName) ({ cls := "WeightedForest$SetupText", name := "takeNumber", desc := "(II)I" } : Jvm.MethodName)) ∈ TB := TB_in 24 (by decide +kernel) (by decide +kernel)
theorem tb_25 : (Jvm.Cond.selects "WeightedForest$SetupText" ({ cls := "WeightedForest$SetupText", name := "takeWeights", desc := "(LWeightedForest$Forest;)Z" } : Jvm.MethodName) ({ cls := "WeightedForest$SetupText", name := "takeWeights", desc := "(LWeightedForest$Forest;)Z" } : Jvm.MethodName)) ∈ TB := TB_in 25 (by decide +kernel) (by decide +kernel)
theorem tb_26 : (Jvm.Cond.selects "WeightedForest$SetupText" ({ cls := "WeightedForest$SetupText", name := "takeEdges", desc := "(LWeightedForest$Forest;)Z" } : Jvm.MethodName) ({ cls := "WeightedForest$SetupText", name := "takeEdges", desc := "(LWeightedForest$Forest;)Z" } : Jvm.MethodName)) ∈ TB := TB_in 26 (by decide +kernel) (by decide +kernel)
theorem tb_27 : (Jvm.Cond.selects "WeightedForest$SetupText" ({ cls := "WeightedForest$SetupText", name := "takeEdge", desc := "(LWeightedForest$Forest;)Z" } : Jvm.MethodName) ({ cls := "WeightedForest$SetupText", name := "takeEdge", desc := "(LWeightedForest$Forest;)Z" } : Jvm.MethodName)) ∈ TB := TB_in 27 (by decide +kernel) (by decide +kernel)
theorem tb_28 : (Jvm.Cond.selects "WeightedForest$SetupText" ({ cls := "WeightedForest$SetupText", name := "joinTrees", desc := "(II)V" } : Jvm.MethodName) ({ cls := "WeightedForest$SetupText", name := "joinTrees", desc := "(II)V" } : Jvm.MethodName)) ∈ TB := TB_in 28 (by decide +kernel) (by decide +kernel)
theorem tb_29 : (Jvm.Cond.selects "WeightedForest" ({ cls := "WeightedForest", name := "emptySlots", desc := "()V" } : Jvm.MethodName) ({ cls := "WeightedForest", name := "emptySlots", desc := "()V" } : Jvm.MethodName)) ∈ TB := TB_in 29 (by decide +kernel) (by decide +kernel)
theorem tb_30 : (Jvm.Cond.initialized "WeightedForestLaw") ∈ TB := TB_in 30 (by decide +kernel) (by decide +kernel)
theorem tb_31 : (Jvm.Cond.initialized "WeightedForest") ∈ TB := TB_in 31 (by decide +kernel) (by decide +kernel)
theorem tb_32 : (Jvm.Cond.initialized "WeightedForest$Forest") ∈ TB := TB_in 32 (by decide +kernel) (by decide +kernel)
theorem tb_33 : (Jvm.Cond.initialized "java/lang/Math") ∈ TB := TB_in 33 (by decide +kernel) (by decide +kernel)
theorem tb_34 : (Jvm.Cond.initialized "java/util/Arrays") ∈ TB := TB_in 34 (by decide +kernel) (by decide +kernel)
theorem tb_35 : (Jvm.Cond.initialized "WeightedForest$Survey") ∈ TB := TB_in 35 (by decide +kernel) (by decide +kernel)
theorem tb_36 : (Jvm.Cond.initialized "WeightedForest$Contraction") ∈ TB := TB_in 36 (by decide +kernel) (by decide +kernel)
theorem tb_37 : (Jvm.Cond.initialized "WeightedForest$SetupText") ∈ TB := TB_in 37 (by decide +kernel) (by decide +kernel)
theorem tb_38 : (Jvm.Cond.initialized "WeightedForest$History") ∈ TB := TB_in 38 (by decide +kernel) (by decide +kernel)
theorem tb_39 : (Jvm.Cond.initialized "WeightedForest$Observations") ∈ TB := TB_in 39 (by decide +kernel) (by decide +kernel)
theorem tb_40 : (Jvm.Cond.initialized "java/lang/System") ∈ TB := TB_in 40 (by decide +kernel) (by decide +kernel)
theorem tb_41 : (Jvm.Cond.initialized "java/lang/String") ∈ TB := TB_in 41 (by decide +kernel) (by decide +kernel)
theorem tb_42 : (Jvm.Cond.initialized "java/lang/StringLatin1") ∈ TB := TB_in 42 (by decide +kernel) (by decide +kernel)
theorem tb_43 : (Jvm.Cond.initialized "jdk/internal/util/Preconditions") ∈ TB := TB_in 43 (by decide +kernel) (by decide +kernel)
theorem tb_44 : (Jvm.Cond.initialized "java/lang/StringUTF16") ∈ TB := TB_in 44 (by decide +kernel) (by decide +kernel)
theorem tb_45 : (Jvm.Cond.classLink "WeightedForestLaw" (10 : Nat) "WeightedForest") ∈ TB := TB_in 45 (by decide +kernel) (by decide +kernel)
theorem tb_46 : (Jvm.Cond.instantiable "WeightedForest" (10 : Nat)) ∈ TB := TB_in 46 (by decide +kernel) (by decide +kernel)
theorem tb_47 : (Jvm.Cond.methodLink "WeightedForestLaw" (166 : Nat) ({ cls := "WeightedForest", name := "<init>", desc := "()V" } : Jvm.MethodName)) ∈ TB := TB_in 47 (by decide +kernel) (by decide +kernel)
theorem tb_48 : (Jvm.Cond.instanceMethod ({ cls := "WeightedForest", name := "<init>", desc := "()V" } : Jvm.MethodName)) ∈ TB := TB_in 48 (by decide +kernel) (by decide +kernel)
theorem tb_49 : (Jvm.Cond.code ({ cls := "WeightedForest", name := "<init>", desc := "()V" } : Jvm.MethodName) prog_1_method_1_code (2 : Nat) (Option.none : Option Jvm.ClassFile.FieldType)) ∈ TB := TB_in 49 (by decide +kernel) (by decide +kernel)
theorem tb_50 : (Jvm.Cond.methodLink "WeightedForest" (1 : Nat) ({ cls := "java/lang/Object", name := "<init>", desc := "()V" } : Jvm.MethodName)) ∈ TB := TB_in 50 (by decide +kernel) (by decide +kernel)
theorem tb_51 : (Jvm.Cond.instanceMethod ({ cls := "java/lang/Object", name := "<init>", desc := "()V" } : Jvm.MethodName)) ∈ TB := TB_in 51 (by decide +kernel) (by decide +kernel)
theorem tb_52 : (Jvm.Cond.code ({ cls := "java/lang/Object", name := "<init>", desc := "()V" } : Jvm.MethodName) object_method_1_code (1 : Nat) (Option.none : Option Jvm.ClassFile.FieldType)) ∈ TB := TB_in 52 (by decide +kernel) (by decide +kernel)
theorem tb_53 : (Jvm.Cond.classLink "WeightedForest" (7 : Nat) "WeightedForest$Forest") ∈ TB := TB_in 53 (by decide +kernel) (by decide +kernel)
theorem tb_54 : (Jvm.Cond.instantiable "WeightedForest$Forest" (3 : Nat)) ∈ TB := TB_in 54 (by decide +kernel) (by decide +kernel)
theorem tb_55 : (Jvm.Cond.methodLink "WeightedForest" (9 : Nat) ({ cls := "WeightedForest$Forest", name := "<init>", desc := "()V" } : Jvm.MethodName)) ∈ TB := TB_in 55 (by decide +kernel) (by decide +kernel)
theorem tb_56 : (Jvm.Cond.instanceMethod ({ cls := "WeightedForest$Forest", name := "<init>", desc := "()V" } : Jvm.MethodName)) ∈ TB := TB_in 56 (by decide +kernel) (by decide +kernel)
theorem tb_57 : (Jvm.Cond.code ({ cls := "WeightedForest$Forest", name := "<init>", desc := "()V" } : Jvm.MethodName) prog_3_method_1_code (1 : Nat) (Option.none : Option Jvm.ClassFile.FieldType)) ∈ TB := TB_in 57 (by decide +kernel) (by decide +kernel)
theorem tb_58 : (Jvm.Cond.methodLink "WeightedForest$Forest" (3 : Nat) ({ cls := "java/lang/Object", name := "<init>", desc := "()V" } : Jvm.MethodName)) ∈ TB := TB_in 58 (by decide +kernel) (by decide +kernel)
theorem tb_59 : (Jvm.Cond.classLink "WeightedForest$Forest" (15 : Nat) "[[I") ∈ TB := TB_in 59 (by decide +kernel) (by decide +kernel)
theorem tb_61 : (Jvm.Cond.methodLink "WeightedForest$Forest" (20 : Nat) ({ cls := "WeightedForest$Forest", name := "reset", desc := "(I)V" } : Jvm.MethodName)) ∈ TB := TB_in 61 (by decide +kernel) (by decide +kernel)
theorem tb_62 : (Jvm.Cond.instanceMethod ({ cls := "WeightedForest$Forest", name := "reset", desc := "(I)V" } : Jvm.MethodName)) ∈ TB := TB_in 62 (by decide +kernel) (by decide +kernel)
theorem tb_63 : (Jvm.Cond.selects "WeightedForest$Forest" ({ cls := "WeightedForest$Forest", name := "reset", desc := "(I)V" } : Jvm.MethodName) ({ cls := "WeightedForest$Forest", name := "reset", desc := "(I)V" } : Jvm.MethodName)) ∈ TB := TB_in 63 (by decide +kernel) (by decide +kernel)
theorem tb_64 : (Jvm.Cond.code ({ cls := "WeightedForest$Forest", name := "reset", desc := "(I)V" } : Jvm.MethodName) prog_3_method_2_code (3 : Nat) (Option.none : Option Jvm.ClassFile.FieldType)) ∈ TB := TB_in 64 (by decide +kernel) (by decide +kernel)
theorem tb_65 : (Jvm.Cond.methodLink "WeightedForest$Forest" (24 : Nat) ({ cls := "java/lang/Math", name := "min", desc := "(II)I" } : Jvm.MethodName)) ∈ TB := TB_in 65 (by decide +kernel) (by decide +kernel)
theorem tb_66 : (Jvm.Cond.static ({ cls := "java/lang/Math", name := "min", desc := "(II)I" } : Jvm.MethodName)) ∈ TB := TB_in 66 (by decide +kernel) (by decide +kernel)
theorem tb_67 : (Jvm.Cond.code ({ cls := "java/lang/Math", name := "min", desc := "(II)I" } : Jvm.MethodName) prog_10_method_69_code (2 : Nat) (Option.some Jvm.ClassFile.FieldType.int)) ∈ TB := TB_in 67 (by decide +kernel) (by decide +kernel)
theorem tb_68 : (Jvm.Cond.methodLink "WeightedForest$Forest" (30 : Nat) ({ cls := "java/lang/Math", name := "max", desc := "(II)I" } : Jvm.MethodName)) ∈ TB := TB_in 68 (by decide +kernel) (by decide +kernel)
theorem tb_69 : (Jvm.Cond.static ({ cls := "java/lang/Math", name := "max", desc := "(II)I" } : Jvm.MethodName)) ∈ TB := TB_in 69 (by decide +kernel) (by decide +kernel)
theorem tb_70 : (Jvm.Cond.code ({ cls := "java/lang/Math", name := "max", desc := "(II)I" } : Jvm.MethodName) prog_10_method_65_code (2 : Nat) (Option.some Jvm.ClassFile.FieldType.int)) ∈ TB := TB_in 70 (by decide +kernel) (by decide +kernel)
theorem tb_71 : (Jvm.Cond.methodLink "WeightedForest$Forest" (37 : Nat) ({ cls := "java/util/Arrays", name := "fill", desc := "([II)V" } : Jvm.MethodName)) ∈ TB := TB_in 71 (by decide +kernel) (by decide +kernel)
theorem tb_72 : (Jvm.Cond.static ({ cls := "java/util/Arrays", name := "fill", desc := "([II)V" } : Jvm.MethodName)) ∈ TB := TB_in 72 (by decide +kernel) (by decide +kernel)
theorem tb_73 : (Jvm.Cond.code ({ cls := "java/util/Arrays", name := "fill", desc := "([II)V" } : Jvm.MethodName) prog_15_method_103_code (4 : Nat) (Option.none : Option Jvm.ClassFile.FieldType)) ∈ TB := TB_in 73 (by decide +kernel) (by decide +kernel)
theorem tb_74 : (Jvm.Cond.fieldLink "WeightedForest$Forest" (33 : Nat) "WeightedForest$Forest" "count" "I") ∈ TB := TB_in 74 (by decide +kernel) (by decide +kernel)
theorem tb_75 : (Jvm.Cond.fieldLink "WeightedForest$Forest" (9 : Nat) "WeightedForest$Forest" "weights" "[I") ∈ TB := TB_in 75 (by decide +kernel) (by decide +kernel)
theorem tb_76 : (Jvm.Cond.fieldLink "WeightedForest$Forest" (17 : Nat) "WeightedForest$Forest" "edges" "[[I") ∈ TB := TB_in 76 (by decide +kernel) (by decide +kernel)
theorem tb_84 : (Jvm.Cond.arrayClass Jvm.ClassFile.FieldType.int) ∈ TB := TB_in 84 (by decide +kernel) (by decide +kernel)
theorem tb_85 : (Jvm.Cond.classLink "WeightedForest" (16 : Nat) "WeightedForest$Survey") ∈ TB := TB_in 85 (by decide +kernel) (by decide +kernel)
theorem tb_86 : (Jvm.Cond.instantiable "WeightedForest$Survey" (3 : Nat)) ∈ TB := TB_in 86 (by decide +kernel) (by decide +kernel)
theorem tb_87 : (Jvm.Cond.methodLink "WeightedForest" (18 : Nat) ({ cls := "WeightedForest$Survey", name := "<init>", desc := "(LWeightedForest$Forest;)V" } : Jvm.MethodName)) ∈ TB := TB_in 87 (by decide +kernel) (by decide +kernel)
theorem tb_88 : (Jvm.Cond.instanceMethod ({ cls := "WeightedForest$Survey", name := "<init>", desc := "(LWeightedForest$Forest;)V" } : Jvm.MethodName)) ∈ TB := TB_in 88 (by decide +kernel) (by decide +kernel)
theorem tb_89 : (Jvm.Cond.code ({ cls := "WeightedForest$Survey", name := "<init>", desc := "(LWeightedForest$Forest;)V" } : Jvm.MethodName) prog_7_method_1_code (2 : Nat) (Option.none : Option Jvm.ClassFile.FieldType)) ∈ TB := TB_in 89 (by decide +kernel) (by decide +kernel)
theorem tb_90 : (Jvm.Cond.methodLink "WeightedForest$Survey" (3 : Nat) ({ cls := "java/lang/Object", name := "<init>", desc := "()V" } : Jvm.MethodName)) ∈ TB := TB_in 90 (by decide +kernel) (by decide +kernel)
theorem tb_91 : (Jvm.Cond.classLink "WeightedForest$Survey" (15 : Nat) "[[I") ∈ TB := TB_in 91 (by decide +kernel) (by decide +kernel)
theorem tb_92 : (Jvm.Cond.fieldLink "WeightedForest$Survey" (9 : Nat) "WeightedForest$Survey" "forest" "LWeightedForest$Forest;") ∈ TB := TB_in 92 (by decide +kernel) (by decide +kernel)
theorem tb_93 : (Jvm.Cond.fieldLink "WeightedForest$Survey" (26 : Nat) "WeightedForest$Survey" "count" "I") ∈ TB := TB_in 93 (by decide +kernel) (by decide +kernel)
theorem tb_94 : (Jvm.Cond.fieldLink "WeightedForest$Survey" (17 : Nat) "WeightedForest$Survey" "lengths" "[[I") ∈ TB := TB_in 94 (by decide +kernel) (by decide +kernel)
theorem tb_102 : (Jvm.Cond.classLink "WeightedForest" (31 : Nat) "WeightedForest$Contraction") ∈ TB := TB_in 102 (by decide +kernel) (by decide +kernel)
theorem tb_103 : (Jvm.Cond.instantiable "WeightedForest$Contraction" (7 : Nat)) ∈ TB := TB_in 103 (by decide +kernel) (by decide +kernel)
theorem tb_104 : (Jvm.Cond.methodLink "WeightedForest" (33 : Nat) ({ cls := "WeightedForest$Contraction", name := "<init>", desc := "()V" } : Jvm.MethodName)) ∈ TB := TB_in 104 (by decide +kernel) (by decide +kernel)
theorem tb_105 : (Jvm.Cond.instanceMethod ({ cls := "WeightedForest$Contraction", name := "<init>", desc := "()V" } : Jvm.MethodName)) ∈ TB := TB_in 105 (by decide +kernel) (by decide +kernel)
theorem tb_106 : (Jvm.Cond.code ({ cls := "WeightedForest$Contraction", name := "<init>", desc := "()V" } : Jvm.MethodName) prog_2_method_1_code (1 : Nat) (Option.none : Option Jvm.ClassFile.FieldType)) ∈ TB := TB_in 106 (by decide +kernel) (by decide +kernel)
theorem tb_107 : (Jvm.Cond.methodLink "WeightedForest$Contraction" (3 : Nat) ({ cls := "java/lang/Object", name := "<init>", desc := "()V" } : Jvm.MethodName)) ∈ TB := TB_in 107 (by decide +kernel) (by decide +kernel)
theorem tb_108 : (Jvm.Cond.classLink "WeightedForest$Contraction" (22 : Nat) "[[I") ∈ TB := TB_in 108 (by decide +kernel) (by decide +kernel)
theorem tb_109 : (Jvm.Cond.fieldLink "WeightedForest$Contraction" (52 : Nat) "WeightedForest$Contraction" "count" "I") ∈ TB := TB_in 109 (by decide +kernel) (by decide +kernel)
theorem tb_110 : (Jvm.Cond.fieldLink "WeightedForest$Contraction" (39 : Nat) "WeightedForest$Contraction" "remaining" "I") ∈ TB := TB_in 110 (by decide +kernel) (by decide +kernel)
theorem tb_111 : (Jvm.Cond.fieldLink "WeightedForest$Contraction" (35 : Nat) "WeightedForest$Contraction" "round" "I") ∈ TB := TB_in 111 (by decide +kernel) (by decide +kernel)
theorem tb_112 : (Jvm.Cond.fieldLink "WeightedForest$Contraction" (9 : Nat) "WeightedForest$Contraction" "present" "[Z") ∈ TB := TB_in 112 (by decide +kernel) (by decide +kernel)
theorem tb_113 : (Jvm.Cond.fieldLink "WeightedForest$Contraction" (15 : Nat) "WeightedForest$Contraction" "raked" "[Z") ∈ TB := TB_in 113 (by decide +kernel) (by decide +kernel)
theorem tb_114 : (Jvm.Cond.fieldLink "WeightedForest$Contraction" (18 : Nat) "WeightedForest$Contraction" "removedIn" "[I") ∈ TB := TB_in 114 (by decide +kernel) (by decide +kernel)
theorem tb_115 : (Jvm.Cond.fieldLink "WeightedForest$Contraction" (24 : Nat) "WeightedForest$Contraction" "edges" "[[I") ∈ TB := TB_in 115 (by decide +kernel) (by decide +kernel)
theorem tb_131 : (Jvm.Cond.arrayClass Jvm.ClassFile.FieldType.boolean) ∈ TB := TB_in 131 (by decide +kernel) (by decide +kernel)
theorem tb_132 : (Jvm.Cond.classLink "WeightedForest" (38 : Nat) "WeightedForest$SetupText") ∈ TB := TB_in 132 (by decide +kernel) (by decide +kernel)
theorem tb_133 : (Jvm.Cond.instantiable "WeightedForest$SetupText" (4 : Nat)) ∈ TB := TB_in 133 (by decide +kernel) (by decide +kernel)
theorem tb_134 : (Jvm.Cond.methodLink "WeightedForest" (40 : Nat) ({ cls := "WeightedForest$SetupText", name := "<init>", desc := "()V" } : Jvm.MethodName)) ∈ TB := TB_in 134 (by decide +kernel) (by decide +kernel)
theorem tb_135 : (Jvm.Cond.instanceMethod ({ cls := "WeightedForest$SetupText", name := "<init>", desc := "()V" } : Jvm.MethodName)) ∈ TB := TB_in 135 (by decide +kernel) (by decide +kernel)
theorem tb_136 : (Jvm.Cond.code ({ cls := "WeightedForest$SetupText", name := "<init>", desc := "()V" } : Jvm.MethodName) prog_6_method_1_code (1 : Nat) (Option.none : Option Jvm.ClassFile.FieldType)) ∈ TB := TB_in 136 (by decide +kernel) (by decide +kernel)
theorem tb_137 : (Jvm.Cond.methodLink "WeightedForest$SetupText" (3 : Nat) ({ cls := "java/lang/Object", name := "<init>", desc := "()V" } : Jvm.MethodName)) ∈ TB := TB_in 137 (by decide +kernel) (by decide +kernel)
theorem tb_138 : (Jvm.Cond.fieldLink "WeightedForest$SetupText" (18 : Nat) "WeightedForest$SetupText" "length" "I") ∈ TB := TB_in 138 (by decide +kernel) (by decide +kernel)
theorem tb_139 : (Jvm.Cond.fieldLink "WeightedForest$SetupText" (11 : Nat) "WeightedForest$SetupText" "signs" "[I") ∈ TB := TB_in 139 (by decide +kernel) (by decide +kernel)
theorem tb_140 : (Jvm.Cond.fieldLink "WeightedForest$SetupText" (22 : Nat) "WeightedForest$SetupText" "place" "I") ∈ TB := TB_in 140 (by decide +kernel) (by decide +kernel)
theorem tb_141 : (Jvm.Cond.fieldLink "WeightedForest$SetupText" (15 : Nat) "WeightedForest$SetupText" "treeMarks" "[I") ∈ TB := TB_in 141 (by decide +kernel) (by decide +kernel)
theorem tb_151 : (Jvm.Cond.classLink "WeightedForest" (45 : Nat) "WeightedForest$History") ∈ TB := TB_in 151 (by decide +kernel) (by decide +kernel)
theorem tb_152 : (Jvm.Cond.instantiable "WeightedForest$History" (3 : Nat)) ∈ TB := TB_in 152 (by decide +kernel) (by decide +kernel)
theorem tb_153 : (Jvm.Cond.methodLink "WeightedForest" (47 : Nat) ({ cls := "WeightedForest$History", name := "<init>", desc := "()V" } : Jvm.MethodName)) ∈ TB := TB_in 153 (by decide +kernel) (by decide +kernel)
theorem tb_154 : (Jvm.Cond.instanceMethod ({ cls := "WeightedForest$History", name := "<init>", desc := "()V" } : Jvm.MethodName)) ∈ TB := TB_in 154 (by decide +kernel) (by decide +kernel)
theorem tb_155 : (Jvm.Cond.code ({ cls := "WeightedForest$History", name := "<init>", desc := "()V" } : Jvm.MethodName) prog_4_method_1_code (2 : Nat) (Option.none : Option Jvm.ClassFile.FieldType)) ∈ TB := TB_in 155 (by decide +kernel) (by decide +kernel)
theorem tb_156 : (Jvm.Cond.methodLink "WeightedForest$History" (1 : Nat) ({ cls := "java/lang/Object", name := "<init>", desc := "()V" } : Jvm.MethodName)) ∈ TB := TB_in 156 (by decide +kernel) (by decide +kernel)
theorem tb_157 : (Jvm.Cond.classLink "WeightedForest$History" (9 : Nat) "WeightedForest$Forest") ∈ TB := TB_in 157 (by decide +kernel) (by decide +kernel)
theorem tb_159 : (Jvm.Cond.methodLink "WeightedForest$History" (15 : Nat) ({ cls := "WeightedForest$Forest", name := "<init>", desc := "()V" } : Jvm.MethodName)) ∈ TB := TB_in 159 (by decide +kernel) (by decide +kernel)
theorem tb_160 : (Jvm.Cond.fieldLink "WeightedForest$History" (11 : Nat) "WeightedForest$History" "states" "[LWeightedForest$Forest;") ∈ TB := TB_in 160 (by decide +kernel) (by decide +kernel)
theorem tb_161 : (Jvm.Cond.fieldLink "WeightedForest$History" (20 : Nat) "WeightedForest$History" "next" "I") ∈ TB := TB_in 161 (by decide +kernel) (by decide +kernel)
theorem tb_162 : (Jvm.Cond.fieldLink "WeightedForest$History" (16 : Nat) "WeightedForest$History" "count" "I") ∈ TB := TB_in 162 (by decide +kernel) (by decide +kernel)
theorem tb_170 : (Jvm.Cond.classLink "WeightedForest" (52 : Nat) "WeightedForest$Observations") ∈ TB := TB_in 170 (by decide +kernel) (by decide +kernel)
theorem tb_171 : (Jvm.Cond.instantiable "WeightedForest$Observations" (5 : Nat)) ∈ TB := TB_in 171 (by decide +kernel) (by decide +kernel)
theorem tb_172 : (Jvm.Cond.methodLink "WeightedForest" (54 : Nat) ({ cls := "WeightedForest$Observations", name := "<init>", desc := "()V" } : Jvm.MethodName)) ∈ TB := TB_in 172 (by decide +kernel) (by decide +kernel)
theorem tb_173 : (Jvm.Cond.instanceMethod ({ cls := "WeightedForest$Observations", name := "<init>", desc := "()V" } : Jvm.MethodName)) ∈ TB := TB_in 173 (by decide +kernel) (by decide +kernel)
theorem tb_174 : (Jvm.Cond.code ({ cls := "WeightedForest$Observations", name := "<init>", desc := "()V" } : Jvm.MethodName) prog_5_method_1_code (1 : Nat) (Option.none : Option Jvm.ClassFile.FieldType)) ∈ TB := TB_in 174 (by decide +kernel) (by decide +kernel)
theorem tb_175 : (Jvm.Cond.methodLink "WeightedForest$Observations" (3 : Nat) ({ cls := "java/lang/Object", name := "<init>", desc := "()V" } : Jvm.MethodName)) ∈ TB := TB_in 175 (by decide +kernel) (by decide +kernel)
theorem tb_176 : (Jvm.Cond.fieldLink "WeightedForest$Observations" (11 : Nat) "WeightedForest$Observations" "starts" "[I") ∈ TB := TB_in 176 (by decide +kernel) (by decide +kernel)
theorem tb_177 : (Jvm.Cond.fieldLink "WeightedForest$Observations" (15 : Nat) "WeightedForest$Observations" "ends" "[I") ∈ TB := TB_in 177 (by decide +kernel) (by decide +kernel)
theorem tb_178 : (Jvm.Cond.fieldLink "WeightedForest$Observations" (18 : Nat) "WeightedForest$Observations" "lengths" "[I") ∈ TB := TB_in 178 (by decide +kernel) (by decide +kernel)
theorem tb_179 : (Jvm.Cond.fieldLink "WeightedForest$Observations" (21 : Nat) "WeightedForest$Observations" "next" "I") ∈ TB := TB_in 179 (by decide +kernel) (by decide +kernel)
theorem tb_180 : (Jvm.Cond.fieldLink "WeightedForest$Observations" (25 : Nat) "WeightedForest$Observations" "count" "I") ∈ TB := TB_in 180 (by decide +kernel) (by decide +kernel)
theorem tb_192 : (Jvm.Cond.fieldLink "WeightedForest" (10 : Nat) "WeightedForest" "forest" "LWeightedForest$Forest;") ∈ TB := TB_in 192 (by decide +kernel) (by decide +kernel)
theorem tb_193 : (Jvm.Cond.fieldLink "WeightedForest" (21 : Nat) "WeightedForest" "survey" "LWeightedForest$Survey;") ∈ TB := TB_in 193 (by decide +kernel) (by decide +kernel)
theorem tb_194 : (Jvm.Cond.fieldLink "WeightedForest" (25 : Nat) "WeightedForest" "trial" "LWeightedForest$Forest;") ∈ TB := TB_in 194 (by decide +kernel) (by decide +kernel)
theorem tb_195 : (Jvm.Cond.fieldLink "WeightedForest" (28 : Nat) "WeightedForest" "trialSurvey" "LWeightedForest$Survey;") ∈ TB := TB_in 195 (by decide +kernel) (by decide +kernel)
theorem tb_196 : (Jvm.Cond.fieldLink "WeightedForest" (34 : Nat) "WeightedForest" "contraction" "LWeightedForest$Contraction;") ∈ TB := TB_in 196 (by decide +kernel) (by decide +kernel)
theorem tb_197 : (Jvm.Cond.fieldLink "WeightedForest" (41 : Nat) "WeightedForest" "text" "LWeightedForest$SetupText;") ∈ TB := TB_in 197 (by decide +kernel) (by decide +kernel)
theorem tb_198 : (Jvm.Cond.fieldLink "WeightedForest" (48 : Nat) "WeightedForest" "history" "LWeightedForest$History;") ∈ TB := TB_in 198 (by decide +kernel) (by decide +kernel)
theorem tb_199 : (Jvm.Cond.fieldLink "WeightedForest" (55 : Nat) "WeightedForest" "observations" "LWeightedForest$Observations;") ∈ TB := TB_in 199 (by decide +kernel) (by decide +kernel)
theorem tb_200 : (Jvm.Cond.fieldLink "WeightedForest" (59 : Nat) "WeightedForest" "slots" "[LWeightedForest$Forest;") ∈ TB := TB_in 200 (by decide +kernel) (by decide +kernel)
theorem tb_201 : (Jvm.Cond.fieldLink "WeightedForest" (63 : Nat) "WeightedForest" "filled" "[Z") ∈ TB := TB_in 201 (by decide +kernel) (by decide +kernel)
theorem tb_223 : (Jvm.Cond.methodLink "WeightedForestLaw" (171 : Nat) ({ cls := "WeightedForestLaw", name := "cell", desc := "([II)I" } : Jvm.MethodName)) ∈ TB := TB_in 223 (by decide +kernel) (by decide +kernel)
theorem tb_224 : (Jvm.Cond.static ({ cls := "WeightedForestLaw", name := "cell", desc := "([II)I" } : Jvm.MethodName)) ∈ TB := TB_in 224 (by decide +kernel) (by decide +kernel)
theorem tb_226 : (Jvm.Cond.constant "WeightedForestLaw" (7 : Nat) (15568003 : Int32)) ∈ TB := TB_in 226 (by decide +kernel) (by decide +kernel)
theorem tb_227 : (Jvm.Cond.constant "WeightedForestLaw" (8 : Nat) (2147483647 : Int32)) ∈ TB := TB_in 227 (by decide +kernel) (by decide +kernel)
theorem tb_228 : (Jvm.Cond.methodLink "WeightedForestLaw" (167 : Nat) ({ cls := "WeightedForestLaw", name := "errors", desc := "(LWeightedForest;)Z" } : Jvm.MethodName)) ∈ TB := TB_in 228 (by decide +kernel) (by decide +kernel)
theorem tb_229 : (Jvm.Cond.static ({ cls := "WeightedForestLaw", name := "errors", desc := "(LWeightedForest;)Z" } : Jvm.MethodName)) ∈ TB := TB_in 229 (by decide +kernel) (by decide +kernel)
theorem tb_231 : (Jvm.Cond.methodLink "WeightedForestLaw" (15 : Nat) ({ cls := "WeightedForestLaw", name := "vertices", desc := "(LWeightedForest;)I" } : Jvm.MethodName)) ∈ TB := TB_in 231 (by decide +kernel) (by decide +kernel)
theorem tb_232 : (Jvm.Cond.static ({ cls := "WeightedForestLaw", name := "vertices", desc := "(LWeightedForest;)I" } : Jvm.MethodName)) ∈ TB := TB_in 232 (by decide +kernel) (by decide +kernel)
theorem tb_234 : (Jvm.Cond.methodLink "WeightedForestLaw" (9 : Nat) ({ cls := "WeightedForest", name := "vertexWeight", desc := "(I)I" } : Jvm.MethodName)) ∈ TB := TB_in 234 (by decide +kernel) (by decide +kernel)
theorem tb_235 : (Jvm.Cond.instanceMethod ({ cls := "WeightedForest", name := "vertexWeight", desc := "(I)I" } : Jvm.MethodName)) ∈ TB := TB_in 235 (by decide +kernel) (by decide +kernel)
theorem tb_236 : (Jvm.Cond.selects "WeightedForest" ({ cls := "WeightedForest", name := "vertexWeight", desc := "(I)I" } : Jvm.MethodName) ({ cls := "WeightedForest", name := "vertexWeight", desc := "(I)I" } : Jvm.MethodName)) ∈ TB := TB_in 236 (by decide +kernel) (by decide +kernel)
theorem tb_237 : (Jvm.Cond.code ({ cls := "WeightedForest", name := "vertexWeight", desc := "(I)I" } : Jvm.MethodName) prog_1_method_7_code (2 : Nat) (Option.some Jvm.ClassFile.FieldType.int)) ∈ TB := TB_in 237 (by decide +kernel) (by decide +kernel)
theorem tb_238 : (Jvm.Cond.methodLink "WeightedForest" (94 : Nat) ({ cls := "WeightedForest$Forest", name := "hasVertex", desc := "(I)Z" } : Jvm.MethodName)) ∈ TB := TB_in 238 (by decide +kernel) (by decide +kernel)
theorem tb_239 : (Jvm.Cond.instanceMethod ({ cls := "WeightedForest$Forest", name := "hasVertex", desc := "(I)Z" } : Jvm.MethodName)) ∈ TB := TB_in 239 (by decide +kernel) (by decide +kernel)
theorem tb_240 : (Jvm.Cond.selects "WeightedForest$Forest" ({ cls := "WeightedForest$Forest", name := "hasVertex", desc := "(I)Z" } : Jvm.MethodName) ({ cls := "WeightedForest$Forest", name := "hasVertex", desc := "(I)Z" } : Jvm.MethodName)) ∈ TB := TB_in 240 (by decide +kernel) (by decide +kernel)
theorem tb_241 : (Jvm.Cond.code ({ cls := "WeightedForest$Forest", name := "hasVertex", desc := "(I)Z" } : Jvm.MethodName) prog_3_method_5_code (2 : Nat) (Option.some Jvm.ClassFile.FieldType.boolean)) ∈ TB := TB_in 241 (by decide +kernel) (by decide +kernel)
theorem tb_242 : (Jvm.Cond.methodLink "WeightedForest" (97 : Nat) ({ cls := "WeightedForest$Forest", name := "weightOf", desc := "(I)I" } : Jvm.MethodName)) ∈ TB := TB_in 242 (by decide +kernel) (by decide +kernel)
theorem tb_243 : (Jvm.Cond.instanceMethod ({ cls := "WeightedForest$Forest", name := "weightOf", desc := "(I)I" } : Jvm.MethodName)) ∈ TB := TB_in 243 (by decide +kernel) (by decide +kernel)
theorem tb_244 : (Jvm.Cond.selects "WeightedForest$Forest" ({ cls := "WeightedForest$Forest", name := "weightOf", desc := "(I)I" } : Jvm.MethodName) ({ cls := "WeightedForest$Forest", name := "weightOf", desc := "(I)I" } : Jvm.MethodName)) ∈ TB := TB_in 244 (by decide +kernel) (by decide +kernel)
theorem tb_245 : (Jvm.Cond.code ({ cls := "WeightedForest$Forest", name := "weightOf", desc := "(I)I" } : Jvm.MethodName) prog_3_method_7_code (2 : Nat) (Option.some Jvm.ClassFile.FieldType.int)) ∈ TB := TB_in 245 (by decide +kernel) (by decide +kernel)
theorem tb_246 : (Jvm.Cond.methodLink "WeightedForest$Forest" (49 : Nat) ({ cls := "WeightedForest$Forest", name := "hasVertex", desc := "(I)Z" } : Jvm.MethodName)) ∈ TB := TB_in 246 (by decide +kernel) (by decide +kernel)
theorem tb_247 : (Jvm.Cond.methodLink "WeightedForestLaw" (21 : Nat) ({ cls := "WeightedForest", name := "append", desc := "(I)I" } : Jvm.MethodName)) ∈ TB := TB_in 247 (by decide +kernel) (by decide +kernel)
theorem tb_248 : (Jvm.Cond.instanceMethod ({ cls := "WeightedForest", name := "append", desc := "(I)I" } : Jvm.MethodName)) ∈ TB := TB_in 248 (by decide +kernel) (by decide +kernel)
theorem tb_249 : (Jvm.Cond.selects "WeightedForest" ({ cls := "WeightedForest", name := "append", desc := "(I)I" } : Jvm.MethodName) ({ cls := "WeightedForest", name := "append", desc := "(I)I" } : Jvm.MethodName)) ∈ TB := TB_in 249 (by decide +kernel) (by decide +kernel)
theorem tb_250 : (Jvm.Cond.code ({ cls := "WeightedForest", name := "append", desc := "(I)I" } : Jvm.MethodName) prog_1_method_2_code (2 : Nat) (Option.some Jvm.ClassFile.FieldType.int)) ∈ TB := TB_in 250 (by decide +kernel) (by decide +kernel)
theorem tb_251 : (Jvm.Cond.methodLink "WeightedForest" (67 : Nat) ({ cls := "WeightedForest$SetupText", name := "put", desc := "(I)Z" } : Jvm.MethodName)) ∈ TB := TB_in 251 (by decide +kernel) (by decide +kernel)
theorem tb_252 : (Jvm.Cond.instanceMethod ({ cls := "WeightedForest$SetupText", name := "put", desc := "(I)Z" } : Jvm.MethodName)) ∈ TB := TB_in 252 (by decide +kernel) (by decide +kernel)
theorem tb_253 : (Jvm.Cond.selects "WeightedForest$SetupText" ({ cls := "WeightedForest$SetupText", name := "put", desc := "(I)Z" } : Jvm.MethodName) ({ cls := "WeightedForest$SetupText", name := "put", desc := "(I)Z" } : Jvm.MethodName)) ∈ TB := TB_in 253 (by decide +kernel) (by decide +kernel)
theorem tb_254 : (Jvm.Cond.code ({ cls := "WeightedForest$SetupText", name := "put", desc := "(I)Z" } : Jvm.MethodName) prog_6_method_3_code (2 : Nat) (Option.some Jvm.ClassFile.FieldType.boolean)) ∈ TB := TB_in 254 (by decide +kernel) (by decide +kernel)
theorem tb_255 : (Jvm.Cond.methodLink "WeightedForest" (71 : Nat) ({ cls := "WeightedForest$SetupText", name := "size", desc := "()I" } : Jvm.MethodName)) ∈ TB := TB_in 255 (by decide +kernel) (by decide +kernel)
theorem tb_256 : (Jvm.Cond.instanceMethod ({ cls := "WeightedForest$SetupText", name := "size", desc := "()I" } : Jvm.MethodName)) ∈ TB := TB_in 256 (by decide +kernel) (by decide +kernel)
theorem tb_257 : (Jvm.Cond.selects "WeightedForest$SetupText" ({ cls := "WeightedForest$SetupText", name := "size", desc := "()I" } : Jvm.MethodName) ({ cls := "WeightedForest$SetupText", name := "size", desc := "()I" } : Jvm.MethodName)) ∈ TB := TB_in 257 (by decide +kernel) (by decide +kernel)
theorem tb_258 : (Jvm.Cond.code ({ cls := "WeightedForest$SetupText", name := "size", desc := "()I" } : Jvm.MethodName) prog_6_method_2_code (1 : Nat) (Option.some Jvm.ClassFile.FieldType.int)) ∈ TB := TB_in 258 (by decide +kernel) (by decide +kernel)
theorem tb_259 : (Jvm.Cond.methodLink "WeightedForestLaw" (24 : Nat) ({ cls := "WeightedForest", name := "edgeWeight", desc := "(II)I" } : Jvm.MethodName)) ∈ TB := TB_in 259 (by decide +kernel) (by decide +kernel)
theorem tb_260 : (Jvm.Cond.instanceMethod ({ cls := "WeightedForest", name := "edgeWeight", desc := "(II)I" } : Jvm.MethodName)) ∈ TB := TB_in 260 (by decide +kernel) (by decide +kernel)
theorem tb_261 : (Jvm.Cond.selects "WeightedForest" ({ cls := "WeightedForest", name := "edgeWeight", desc := "(II)I" } : Jvm.MethodName) ({ cls := "WeightedForest", name := "edgeWeight", desc := "(II)I" } : Jvm.MethodName)) ∈ TB := TB_in 261 (by decide +kernel) (by decide +kernel)
theorem tb_262 : (Jvm.Cond.code ({ cls := "WeightedForest", name := "edgeWeight", desc := "(II)I" } : Jvm.MethodName) prog_1_method_8_code (3 : Nat) (Option.some Jvm.ClassFile.FieldType.int)) ∈ TB := TB_in 262 (by decide +kernel) (by decide +kernel)
theorem tb_263 : (Jvm.Cond.methodLink "WeightedForest" (101 : Nat) ({ cls := "WeightedForest$Forest", name := "hasVertices", desc := "(II)Z" } : Jvm.MethodName)) ∈ TB := TB_in 263 (by decide +kernel) (by decide +kernel)
theorem tb_264 : (Jvm.Cond.instanceMethod ({ cls := "WeightedForest$Forest", name := "hasVertices", desc := "(II)Z" } : Jvm.MethodName)) ∈ TB := TB_in 264 (by decide +kernel) (by decide +kernel)
theorem tb_265 : (Jvm.Cond.selects "WeightedForest$Forest" ({ cls := "WeightedForest$Forest", name := "hasVertices", desc := "(II)Z" } : Jvm.MethodName) ({ cls := "WeightedForest$Forest", name := "hasVertices", desc := "(II)Z" } : Jvm.MethodName)) ∈ TB := TB_in 265 (by decide +kernel) (by decide +kernel)
theorem tb_266 : (Jvm.Cond.code ({ cls := "WeightedForest$Forest", name := "hasVertices", desc := "(II)Z" } : Jvm.MethodName) prog_3_method_6_code (3 : Nat) (Option.some Jvm.ClassFile.FieldType.boolean)) ∈ TB := TB_in 266 (by decide +kernel) (by decide +kernel)
theorem tb_267 : (Jvm.Cond.methodLink "WeightedForest" (105 : Nat) ({ cls := "WeightedForest$Forest", name := "hasEdge", desc := "(II)Z" } : Jvm.MethodName)) ∈ TB := TB_in 267 (by decide +kernel) (by decide +kernel)
theorem tb_268 : (Jvm.Cond.instanceMethod ({ cls := "WeightedForest$Forest", name := "hasEdge", desc := "(II)Z" } : Jvm.MethodName)) ∈ TB := TB_in 268 (by decide +kernel) (by decide +kernel)
theorem tb_269 : (Jvm.Cond.selects "WeightedForest$Forest" ({ cls := "WeightedForest$Forest", name := "hasEdge", desc := "(II)Z" } : Jvm.MethodName) ({ cls := "WeightedForest$Forest", name := "hasEdge", desc := "(II)Z" } : Jvm.MethodName)) ∈ TB := TB_in 269 (by decide +kernel) (by decide +kernel)
theorem tb_270 : (Jvm.Cond.code ({ cls := "WeightedForest$Forest", name := "hasEdge", desc := "(II)Z" } : Jvm.MethodName) prog_3_method_9_code (3 : Nat) (Option.some Jvm.ClassFile.FieldType.boolean)) ∈ TB := TB_in 270 (by decide +kernel) (by decide +kernel)
theorem tb_271 : (Jvm.Cond.methodLink "WeightedForest$Forest" (53 : Nat) ({ cls := "WeightedForest$Forest", name := "edgeBetween", desc := "(II)I" } : Jvm.MethodName)) ∈ TB := TB_in 271 (by decide +kernel) (by decide +kernel)
theorem tb_272 : (Jvm.Cond.instanceMethod ({ cls := "WeightedForest$Forest", name := "edgeBetween", desc := "(II)I" } : Jvm.MethodName)) ∈ TB := TB_in 272 (by decide +kernel) (by decide +kernel)
theorem tb_273 : (Jvm.Cond.selects "WeightedForest$Forest" ({ cls := "WeightedForest$Forest", name := "edgeBetween", desc := "(II)I" } : Jvm.MethodName) ({ cls := "WeightedForest$Forest", name := "edgeBetween", desc := "(II)I" } : Jvm.MethodName)) ∈ TB := TB_in 273 (by decide +kernel) (by decide +kernel)
theorem tb_274 : (Jvm.Cond.code ({ cls := "WeightedForest$Forest", name := "edgeBetween", desc := "(II)I" } : Jvm.MethodName) prog_3_method_10_code (3 : Nat) (Option.some Jvm.ClassFile.FieldType.int)) ∈ TB := TB_in 274 (by decide +kernel) (by decide +kernel)
theorem tb_275 : (Jvm.Cond.methodLink "WeightedForest$Forest" (56 : Nat) ({ cls := "WeightedForest$Forest", name := "hasVertices", desc := "(II)Z" } : Jvm.MethodName)) ∈ TB := TB_in 275 (by decide +kernel) (by decide +kernel)
theorem tb_276 : (Jvm.Cond.methodLink "WeightedForest" (108 : Nat) ({ cls := "WeightedForest$Forest", name := "edgeBetween", desc := "(II)I" } : Jvm.MethodName)) ∈ TB := TB_in 276 (by decide +kernel) (by decide +kernel)
theorem tb_277 : (Jvm.Cond.methodLink "WeightedForestLaw" (28 : Nat) ({ cls := "WeightedForest", name := "treeOf", desc := "(I)I" } : Jvm.MethodName)) ∈ TB := TB_in 277 (by decide +kernel) (by decide +kernel)
theorem tb_278 : (Jvm.Cond.instanceMethod ({ cls := "WeightedForest", name := "treeOf", desc := "(I)I" } : Jvm.MethodName)) ∈ TB := TB_in 278 (by decide +kernel) (by decide +kernel)
theorem tb_279 : (Jvm.Cond.selects "WeightedForest" ({ cls := "WeightedForest", name := "treeOf", desc := "(I)I" } : Jvm.MethodName) ({ cls := "WeightedForest", name := "treeOf", desc := "(I)I" } : Jvm.MethodName)) ∈ TB := TB_in 279 (by decide +kernel) (by decide +kernel)
theorem tb_280 : (Jvm.Cond.code ({ cls := "WeightedForest", name := "treeOf", desc := "(I)I" } : Jvm.MethodName) prog_1_method_9_code (2 : Nat) (Option.some Jvm.ClassFile.FieldType.int)) ∈ TB := TB_in 280 (by decide +kernel) (by decide +kernel)
theorem tb_281 : (Jvm.Cond.methodLink "WeightedForest" (112 : Nat) ({ cls := "WeightedForest$Survey", name := "measure", desc := "()V" } : Jvm.MethodName)) ∈ TB := TB_in 281 (by decide +kernel) (by decide +kernel)
theorem tb_282 : (Jvm.Cond.instanceMethod ({ cls := "WeightedForest$Survey", name := "measure", desc := "()V" } : Jvm.MethodName)) ∈ TB := TB_in 282 (by decide +kernel) (by decide +kernel)
theorem tb_283 : (Jvm.Cond.selects "WeightedForest$Survey" ({ cls := "WeightedForest$Survey", name := "measure", desc := "()V" } : Jvm.MethodName) ({ cls := "WeightedForest$Survey", name := "measure", desc := "()V" } : Jvm.MethodName)) ∈ TB := TB_in 283 (by decide +kernel) (by decide +kernel)
theorem tb_284 : (Jvm.Cond.code ({ cls := "WeightedForest$Survey", name := "measure", desc := "()V" } : Jvm.MethodName) prog_7_method_2_code (4 : Nat) (Option.none : Option Jvm.ClassFile.FieldType)) ∈ TB := TB_in 284 (by decide +kernel) (by decide +kernel)
theorem tb_285 : (Jvm.Cond.methodLink "WeightedForest$Survey" (20 : Nat) ({ cls := "WeightedForest$Forest", name := "vertices", desc := "()I" } : Jvm.MethodName)) ∈ TB := TB_in 285 (by decide +kernel) (by decide +kernel)
theorem tb_286 : (Jvm.Cond.instanceMethod ({ cls := "WeightedForest$Forest", name := "vertices", desc := "()I" } : Jvm.MethodName)) ∈ TB := TB_in 286 (by decide +kernel) (by decide +kernel)
theorem tb_287 : (Jvm.Cond.selects "WeightedForest$Forest" ({ cls := "WeightedForest$Forest", name := "vertices", desc := "()I" } : Jvm.MethodName) ({ cls := "WeightedForest$Forest", name := "vertices", desc := "()I" } : Jvm.MethodName)) ∈ TB := TB_in 287 (by decide +kernel) (by decide +kernel)
theorem tb_288 : (Jvm.Cond.code ({ cls := "WeightedForest$Forest", name := "vertices", desc := "()I" } : Jvm.MethodName) prog_3_method_4_code (1 : Nat) (Option.some Jvm.ClassFile.FieldType.int)) ∈ TB := TB_in 288 (by decide +kernel) (by decide +kernel)
theorem tb_289 : (Jvm.Cond.methodLink "WeightedForest$Survey" (30 : Nat) ({ cls := "WeightedForest$Forest", name := "edgeBetween", desc := "(II)I" } : Jvm.MethodName)) ∈ TB := TB_in 289 (by decide +kernel) (by decide +kernel)
theorem tb_290 : (Jvm.Cond.constant "WeightedForest$Survey" (34 : Nat) (1000000 : Int32)) ∈ TB := TB_in 290 (by decide +kernel) (by decide +kernel)
theorem tb_291 : (Jvm.Cond.methodLink "WeightedForest$Survey" (35 : Nat) ({ cls := "WeightedForest$Survey", name := "extendOver", desc := "(II)V" } : Jvm.MethodName)) ∈ TB := TB_in 291 (by decide +kernel) (by decide +kernel)
theorem tb_293 : (Jvm.Cond.instanceMethod ({ cls := "WeightedForest$Survey", name := "extendOver", desc := "(II)V" } : Jvm.MethodName)) ∈ TB := TB_in 293 (by decide +kernel) (by decide +kernel)
theorem tb_294 : (Jvm.Cond.code ({ cls := "WeightedForest$Survey", name := "extendOver", desc := "(II)V" } : Jvm.MethodName) prog_7_method_3_code (5 : Nat) (Option.none : Option Jvm.ClassFile.FieldType)) ∈ TB := TB_in 294 (by decide +kernel) (by decide +kernel)
theorem tb_295 : (Jvm.Cond.methodLink "WeightedForest$Survey" (39 : Nat) ({ cls := "java/lang/Math", name := "min", desc := "(II)I" } : Jvm.MethodName)) ∈ TB := TB_in 295 (by decide +kernel) (by decide +kernel)
theorem tb_296 : (Jvm.Cond.methodLink "WeightedForest" (115 : Nat) ({ cls := "WeightedForest$Survey", name := "smallestJoined", desc := "(I)I" } : Jvm.MethodName)) ∈ TB := TB_in 296 (by decide +kernel) (by decide +kernel)
theorem tb_297 : (Jvm.Cond.instanceMethod ({ cls := "WeightedForest$Survey", name := "smallestJoined", desc := "(I)I" } : Jvm.MethodName)) ∈ TB := TB_in 297 (by decide +kernel) (by decide +kernel)
theorem tb_298 : (Jvm.Cond.selects "WeightedForest$Survey" ({ cls := "WeightedForest$Survey", name := "smallestJoined", desc := "(I)I" } : Jvm.MethodName) ({ cls := "WeightedForest$Survey", name := "smallestJoined", desc := "(I)I" } : Jvm.MethodName)) ∈ TB := TB_in 298 (by decide +kernel) (by decide +kernel)
theorem tb_299 : (Jvm.Cond.code ({ cls := "WeightedForest$Survey", name := "smallestJoined", desc := "(I)I" } : Jvm.MethodName) prog_7_method_7_code (3 : Nat) (Option.some Jvm.ClassFile.FieldType.int)) ∈ TB := TB_in 299 (by decide +kernel) (by decide +kernel)
theorem tb_300 : (Jvm.Cond.methodLink "WeightedForest$Survey" (47 : Nat) ({ cls := "WeightedForest$Survey", name := "joined", desc := "(II)Z" } : Jvm.MethodName)) ∈ TB := TB_in 300 (by decide +kernel) (by decide +kernel)
theorem tb_301 : (Jvm.Cond.instanceMethod ({ cls := "WeightedForest$Survey", name := "joined", desc := "(II)Z" } : Jvm.MethodName)) ∈ TB := TB_in 301 (by decide +kernel) (by decide +kernel)
end
section
theorem tb_302 : (Jvm.Cond.selects "WeightedForest$Survey" ({ cls := "WeightedForest$Survey", name := "joined", desc := "(II)Z" } : Jvm.MethodName) ({ cls := "WeightedForest$Survey", name := "joined", desc := "(II)Z" } : Jvm.MethodName)) ∈ TB := TB_in 302 (by decide +kernel) (by decide +kernel)
theorem tb_303 : (Jvm.Cond.code ({ cls := "WeightedForest$Survey", name := "joined", desc := "(II)Z" } : Jvm.MethodName) prog_7_method_5_code (3 : Nat) (Option.some Jvm.ClassFile.FieldType.boolean)) ∈ TB := TB_in 303 (by decide +kernel) (by decide +kernel)
theorem tb_304 : (Jvm.Cond.methodLink "WeightedForest$Survey" (44 : Nat) ({ cls := "WeightedForest$Survey", name := "between", desc := "(II)I" } : Jvm.MethodName)) ∈ TB := TB_in 304 (by decide +kernel) (by decide +kernel)
theorem tb_305 : (Jvm.Cond.instanceMethod ({ cls := "WeightedForest$Survey", name := "between", desc := "(II)I" } : Jvm.MethodName)) ∈ TB := TB_in 305 (by decide +kernel) (by decide +kernel)
theorem tb_306 : (Jvm.Cond.selects "WeightedForest$Survey" ({ cls := "WeightedForest$Survey", name := "between", desc := "(II)I" } : Jvm.MethodName) ({ cls := "WeightedForest$Survey", name := "between", desc := "(II)I" } : Jvm.MethodName)) ∈ TB := TB_in 306 (by decide +kernel) (by decide +kernel)
theorem tb_307 : (Jvm.Cond.code ({ cls := "WeightedForest$Survey", name := "between", desc := "(II)I" } : Jvm.MethodName) prog_7_method_4_code (3 : Nat) (Option.some Jvm.ClassFile.FieldType.int)) ∈ TB := TB_in 307 (by decide +kernel) (by decide +kernel)
theorem tb_308 : (Jvm.Cond.methodLink "WeightedForestLaw" (31 : Nat) ({ cls := "WeightedForest", name := "link", desc := "(III)I" } : Jvm.MethodName)) ∈ TB := TB_in 308 (by decide +kernel) (by decide +kernel)
theorem tb_309 : (Jvm.Cond.instanceMethod ({ cls := "WeightedForest", name := "link", desc := "(III)I" } : Jvm.MethodName)) ∈ TB := TB_in 309 (by decide +kernel) (by decide +kernel)
theorem tb_310 : (Jvm.Cond.selects "WeightedForest" ({ cls := "WeightedForest", name := "link", desc := "(III)I" } : Jvm.MethodName) ({ cls := "WeightedForest", name := "link", desc := "(III)I" } : Jvm.MethodName)) ∈ TB := TB_in 310 (by decide +kernel) (by decide +kernel)
theorem tb_311 : (Jvm.Cond.code ({ cls := "WeightedForest", name := "link", desc := "(III)I" } : Jvm.MethodName) prog_1_method_10_code (5 : Nat) (Option.some Jvm.ClassFile.FieldType.int)) ∈ TB := TB_in 311 (by decide +kernel) (by decide +kernel)
theorem tb_312 : (Jvm.Cond.methodLink "WeightedForest" (118 : Nat) ({ cls := "WeightedForest", name := "linkError", desc := "(LWeightedForest$Forest;LWeightedForest$Survey;III)I" } : Jvm.MethodName)) ∈ TB := TB_in 312 (by decide +kernel) (by decide +kernel)
theorem tb_313 : (Jvm.Cond.static ({ cls := "WeightedForest", name := "linkError", desc := "(LWeightedForest$Forest;LWeightedForest$Survey;III)I" } : Jvm.MethodName)) ∈ TB := TB_in 313 (by decide +kernel) (by decide +kernel)
theorem tb_314 : (Jvm.Cond.code ({ cls := "WeightedForest", name := "linkError", desc := "(LWeightedForest$Forest;LWeightedForest$Survey;III)I" } : Jvm.MethodName) prog_1_method_15_code (5 : Nat) (Option.some Jvm.ClassFile.FieldType.int)) ∈ TB := TB_in 314 (by decide +kernel) (by decide +kernel)
theorem tb_315 : (Jvm.Cond.methodLink "WeightedForest" (142 : Nat) ({ cls := "WeightedForest$Survey", name := "joined", desc := "(II)Z" } : Jvm.MethodName)) ∈ TB := TB_in 315 (by decide +kernel) (by decide +kernel)
theorem tb_316 : (Jvm.Cond.methodLink "WeightedForest" (122 : Nat) ({ cls := "WeightedForest$History", name := "remember", desc := "(LWeightedForest$Forest;)V" } : Jvm.MethodName)) ∈ TB := TB_in 316 (by decide +kernel) (by decide +kernel)
theorem tb_317 : (Jvm.Cond.instanceMethod ({ cls := "WeightedForest$History", name := "remember", desc := "(LWeightedForest$Forest;)V" } : Jvm.MethodName)) ∈ TB := TB_in 317 (by decide +kernel) (by decide +kernel)
theorem tb_318 : (Jvm.Cond.selects "WeightedForest$History" ({ cls := "WeightedForest$History", name := "remember", desc := "(LWeightedForest$Forest;)V" } : Jvm.MethodName) ({ cls := "WeightedForest$History", name := "remember", desc := "(LWeightedForest$Forest;)V" } : Jvm.MethodName)) ∈ TB := TB_in 318 (by decide +kernel) (by decide +kernel)
theorem tb_319 : (Jvm.Cond.code ({ cls := "WeightedForest$History", name := "remember", desc := "(LWeightedForest$Forest;)V" } : Jvm.MethodName) prog_4_method_3_code (2 : Nat) (Option.none : Option Jvm.ClassFile.FieldType)) ∈ TB := TB_in 319 (by decide +kernel) (by decide +kernel)
theorem tb_320 : (Jvm.Cond.methodLink "WeightedForest$History" (23 : Nat) ({ cls := "WeightedForest$Forest", name := "become", desc := "(LWeightedForest$Forest;)V" } : Jvm.MethodName)) ∈ TB := TB_in 320 (by decide +kernel) (by decide +kernel)
theorem tb_321 : (Jvm.Cond.instanceMethod ({ cls := "WeightedForest$Forest", name := "become", desc := "(LWeightedForest$Forest;)V" } : Jvm.MethodName)) ∈ TB := TB_in 321 (by decide +kernel) (by decide +kernel)
theorem tb_322 : (Jvm.Cond.selects "WeightedForest$Forest" ({ cls := "WeightedForest$Forest", name := "become", desc := "(LWeightedForest$Forest;)V" } : Jvm.MethodName) ({ cls := "WeightedForest$Forest", name := "become", desc := "(LWeightedForest$Forest;)V" } : Jvm.MethodName)) ∈ TB := TB_in 322 (by decide +kernel) (by decide +kernel)
theorem tb_323 : (Jvm.Cond.code ({ cls := "WeightedForest$Forest", name := "become", desc := "(LWeightedForest$Forest;)V" } : Jvm.MethodName) prog_3_method_3_code (3 : Nat) (Option.none : Option Jvm.ClassFile.FieldType)) ∈ TB := TB_in 323 (by decide +kernel) (by decide +kernel)
theorem tb_324 : (Jvm.Cond.methodLink "WeightedForest$Forest" (43 : Nat) ({ cls := "java/lang/System", name := "arraycopy", desc := "(Ljava/lang/Object;ILjava/lang/Object;II)V" } : Jvm.MethodName)) ∈ TB := TB_in 324 (by decide +kernel) (by decide +kernel)
theorem tb_325 : (Jvm.Cond.static ({ cls := "java/lang/System", name := "arraycopy", desc := "(Ljava/lang/Object;ILjava/lang/Object;II)V" } : Jvm.MethodName)) ∈ TB := TB_in 325 (by decide +kernel) (by decide +kernel)
theorem tb_326 : (Jvm.Cond.native ({ cls := "java/lang/System", name := "arraycopy", desc := "(Ljava/lang/Object;ILjava/lang/Object;II)V" } : Jvm.MethodName)) ∈ TB := TB_in 326 (by decide +kernel) (by decide +kernel)
theorem tb_327 : (Jvm.Cond.methodLink "WeightedForest$History" (27 : Nat) ({ cls := "java/lang/Math", name := "min", desc := "(II)I" } : Jvm.MethodName)) ∈ TB := TB_in 327 (by decide +kernel) (by decide +kernel)
theorem tb_328 : (Jvm.Cond.methodLink "WeightedForest" (125 : Nat) ({ cls := "WeightedForest$Forest", name := "putEdge", desc := "(III)V" } : Jvm.MethodName)) ∈ TB := TB_in 328 (by decide +kernel) (by decide +kernel)
theorem tb_329 : (Jvm.Cond.instanceMethod ({ cls := "WeightedForest$Forest", name := "putEdge", desc := "(III)V" } : Jvm.MethodName)) ∈ TB := TB_in 329 (by decide +kernel) (by decide +kernel)
theorem tb_330 : (Jvm.Cond.selects "WeightedForest$Forest" ({ cls := "WeightedForest$Forest", name := "putEdge", desc := "(III)V" } : Jvm.MethodName) ({ cls := "WeightedForest$Forest", name := "putEdge", desc := "(III)V" } : Jvm.MethodName)) ∈ TB := TB_in 330 (by decide +kernel) (by decide +kernel)
theorem tb_331 : (Jvm.Cond.code ({ cls := "WeightedForest$Forest", name := "putEdge", desc := "(III)V" } : Jvm.MethodName) prog_3_method_11_code (4 : Nat) (Option.none : Option Jvm.ClassFile.FieldType)) ∈ TB := TB_in 331 (by decide +kernel) (by decide +kernel)
theorem tb_332 : (Jvm.Cond.methodLink "WeightedForest" (91 : Nat) ({ cls := "WeightedForest$Forest", name := "edgeCount", desc := "()I" } : Jvm.MethodName)) ∈ TB := TB_in 332 (by decide +kernel) (by decide +kernel)
theorem tb_333 : (Jvm.Cond.instanceMethod ({ cls := "WeightedForest$Forest", name := "edgeCount", desc := "()I" } : Jvm.MethodName)) ∈ TB := TB_in 333 (by decide +kernel) (by decide +kernel)
theorem tb_334 : (Jvm.Cond.selects "WeightedForest$Forest" ({ cls := "WeightedForest$Forest", name := "edgeCount", desc := "()I" } : Jvm.MethodName) ({ cls := "WeightedForest$Forest", name := "edgeCount", desc := "()I" } : Jvm.MethodName)) ∈ TB := TB_in 334 (by decide +kernel) (by decide +kernel)
theorem tb_335 : (Jvm.Cond.code ({ cls := "WeightedForest$Forest", name := "edgeCount", desc := "()I" } : Jvm.MethodName) prog_3_method_12_code (4 : Nat) (Option.some Jvm.ClassFile.FieldType.int)) ∈ TB := TB_in 335 (by decide +kernel) (by decide +kernel)
theorem tb_336 : (Jvm.Cond.methodLink "WeightedForest$Forest" (60 : Nat) ({ cls := "WeightedForest$Forest", name := "hasEdge", desc := "(II)Z" } : Jvm.MethodName)) ∈ TB := TB_in 336 (by decide +kernel) (by decide +kernel)
theorem tb_337 : (Jvm.Cond.methodLink "WeightedForestLaw" (35 : Nat) ({ cls := "WeightedForest", name := "cut", desc := "(II)I" } : Jvm.MethodName)) ∈ TB := TB_in 337 (by decide +kernel) (by decide +kernel)
theorem tb_338 : (Jvm.Cond.instanceMethod ({ cls := "WeightedForest", name := "cut", desc := "(II)I" } : Jvm.MethodName)) ∈ TB := TB_in 338 (by decide +kernel) (by decide +kernel)
theorem tb_339 : (Jvm.Cond.selects "WeightedForest" ({ cls := "WeightedForest", name := "cut", desc := "(II)I" } : Jvm.MethodName) ({ cls := "WeightedForest", name := "cut", desc := "(II)I" } : Jvm.MethodName)) ∈ TB := TB_in 339 (by decide +kernel) (by decide +kernel)
theorem tb_340 : (Jvm.Cond.code ({ cls := "WeightedForest", name := "cut", desc := "(II)I" } : Jvm.MethodName) prog_1_method_11_code (5 : Nat) (Option.some Jvm.ClassFile.FieldType.int)) ∈ TB := TB_in 340 (by decide +kernel) (by decide +kernel)
theorem tb_341 : (Jvm.Cond.methodLink "WeightedForest" (129 : Nat) ({ cls := "WeightedForest", name := "cutError", desc := "(LWeightedForest$Forest;II)I" } : Jvm.MethodName)) ∈ TB := TB_in 341 (by decide +kernel) (by decide +kernel)
theorem tb_342 : (Jvm.Cond.static ({ cls := "WeightedForest", name := "cutError", desc := "(LWeightedForest$Forest;II)I" } : Jvm.MethodName)) ∈ TB := TB_in 342 (by decide +kernel) (by decide +kernel)
theorem tb_343 : (Jvm.Cond.code ({ cls := "WeightedForest", name := "cutError", desc := "(LWeightedForest$Forest;II)I" } : Jvm.MethodName) prog_1_method_16_code (3 : Nat) (Option.some Jvm.ClassFile.FieldType.int)) ∈ TB := TB_in 343 (by decide +kernel) (by decide +kernel)
theorem tb_344 : (Jvm.Cond.methodLink "WeightedForestLaw" (38 : Nat) ({ cls := "WeightedForest", name := "setEdgeWeight", desc := "(III)I" } : Jvm.MethodName)) ∈ TB := TB_in 344 (by decide +kernel) (by decide +kernel)
theorem tb_345 : (Jvm.Cond.instanceMethod ({ cls := "WeightedForest", name := "setEdgeWeight", desc := "(III)I" } : Jvm.MethodName)) ∈ TB := TB_in 345 (by decide +kernel) (by decide +kernel)
theorem tb_346 : (Jvm.Cond.selects "WeightedForest" ({ cls := "WeightedForest", name := "setEdgeWeight", desc := "(III)I" } : Jvm.MethodName) ({ cls := "WeightedForest", name := "setEdgeWeight", desc := "(III)I" } : Jvm.MethodName)) ∈ TB := TB_in 346 (by decide +kernel) (by decide +kernel)
theorem tb_347 : (Jvm.Cond.code ({ cls := "WeightedForest", name := "setEdgeWeight", desc := "(III)I" } : Jvm.MethodName) prog_1_method_12_code (5 : Nat) (Option.some Jvm.ClassFile.FieldType.int)) ∈ TB := TB_in 347 (by decide +kernel) (by decide +kernel)
theorem tb_348 : (Jvm.Cond.methodLink "WeightedForestLaw" (41 : Nat) ({ cls := "WeightedForest", name := "setVertexWeight", desc := "(II)I" } : Jvm.MethodName)) ∈ TB := TB_in 348 (by decide +kernel) (by decide +kernel)
theorem tb_349 : (Jvm.Cond.instanceMethod ({ cls := "WeightedForest", name := "setVertexWeight", desc := "(II)I" } : Jvm.MethodName)) ∈ TB := TB_in 349 (by decide +kernel) (by decide +kernel)
theorem tb_350 : (Jvm.Cond.selects "WeightedForest" ({ cls := "WeightedForest", name := "setVertexWeight", desc := "(II)I" } : Jvm.MethodName) ({ cls := "WeightedForest", name := "setVertexWeight", desc := "(II)I" } : Jvm.MethodName)) ∈ TB := TB_in 350 (by decide +kernel) (by decide +kernel)
theorem tb_351 : (Jvm.Cond.code ({ cls := "WeightedForest", name := "setVertexWeight", desc := "(II)I" } : Jvm.MethodName) prog_1_method_13_code (4 : Nat) (Option.some Jvm.ClassFile.FieldType.int)) ∈ TB := TB_in 351 (by decide +kernel) (by decide +kernel)
theorem tb_352 : (Jvm.Cond.methodLink "WeightedForest" (133 : Nat) ({ cls := "WeightedForest$Forest", name := "putWeight", desc := "(II)V" } : Jvm.MethodName)) ∈ TB := TB_in 352 (by decide +kernel) (by decide +kernel)
theorem tb_353 : (Jvm.Cond.instanceMethod ({ cls := "WeightedForest$Forest", name := "putWeight", desc := "(II)V" } : Jvm.MethodName)) ∈ TB := TB_in 353 (by decide +kernel) (by decide +kernel)
theorem tb_354 : (Jvm.Cond.selects "WeightedForest$Forest" ({ cls := "WeightedForest$Forest", name := "putWeight", desc := "(II)V" } : Jvm.MethodName) ({ cls := "WeightedForest$Forest", name := "putWeight", desc := "(II)V" } : Jvm.MethodName)) ∈ TB := TB_in 354 (by decide +kernel) (by decide +kernel)
theorem tb_355 : (Jvm.Cond.code ({ cls := "WeightedForest$Forest", name := "putWeight", desc := "(II)V" } : Jvm.MethodName) prog_3_method_8_code (3 : Nat) (Option.none : Option Jvm.ClassFile.FieldType)) ∈ TB := TB_in 355 (by decide +kernel) (by decide +kernel)
theorem tb_356 : (Jvm.Cond.methodLink "WeightedForestLaw" (44 : Nat) ({ cls := "WeightedForest", name := "distance", desc := "(II)I" } : Jvm.MethodName)) ∈ TB := TB_in 356 (by decide +kernel) (by decide +kernel)
theorem tb_357 : (Jvm.Cond.instanceMethod ({ cls := "WeightedForest", name := "distance", desc := "(II)I" } : Jvm.MethodName)) ∈ TB := TB_in 357 (by decide +kernel) (by decide +kernel)
theorem tb_358 : (Jvm.Cond.selects "WeightedForest" ({ cls := "WeightedForest", name := "distance", desc := "(II)I" } : Jvm.MethodName) ({ cls := "WeightedForest", name := "distance", desc := "(II)I" } : Jvm.MethodName)) ∈ TB := TB_in 358 (by decide +kernel) (by decide +kernel)
theorem tb_359 : (Jvm.Cond.code ({ cls := "WeightedForest", name := "distance", desc := "(II)I" } : Jvm.MethodName) prog_1_method_17_code (3 : Nat) (Option.some Jvm.ClassFile.FieldType.int)) ∈ TB := TB_in 359 (by decide +kernel) (by decide +kernel)
theorem tb_360 : (Jvm.Cond.methodLink "WeightedForest" (145 : Nat) ({ cls := "WeightedForest$Survey", name := "between", desc := "(II)I" } : Jvm.MethodName)) ∈ TB := TB_in 360 (by decide +kernel) (by decide +kernel)
theorem tb_361 : (Jvm.Cond.methodLink "WeightedForestLaw" (47 : Nat) ({ cls := "WeightedForest", name := "pathVertex", desc := "(III)I" } : Jvm.MethodName)) ∈ TB := TB_in 361 (by decide +kernel) (by decide +kernel)
theorem tb_362 : (Jvm.Cond.instanceMethod ({ cls := "WeightedForest", name := "pathVertex", desc := "(III)I" } : Jvm.MethodName)) ∈ TB := TB_in 362 (by decide +kernel) (by decide +kernel)
theorem tb_363 : (Jvm.Cond.selects "WeightedForest" ({ cls := "WeightedForest", name := "pathVertex", desc := "(III)I" } : Jvm.MethodName) ({ cls := "WeightedForest", name := "pathVertex", desc := "(III)I" } : Jvm.MethodName)) ∈ TB := TB_in 363 (by decide +kernel) (by decide +kernel)
theorem tb_364 : (Jvm.Cond.code ({ cls := "WeightedForest", name := "pathVertex", desc := "(III)I" } : Jvm.MethodName) prog_1_method_18_code (4 : Nat) (Option.some Jvm.ClassFile.FieldType.int)) ∈ TB := TB_in 364 (by decide +kernel) (by decide +kernel)
theorem tb_365 : (Jvm.Cond.methodLink "WeightedForest" (148 : Nat) ({ cls := "WeightedForest$Survey", name := "vertexOnPath", desc := "(III)I" } : Jvm.MethodName)) ∈ TB := TB_in 365 (by decide +kernel) (by decide +kernel)
theorem tb_366 : (Jvm.Cond.instanceMethod ({ cls := "WeightedForest$Survey", name := "vertexOnPath", desc := "(III)I" } : Jvm.MethodName)) ∈ TB := TB_in 366 (by decide +kernel) (by decide +kernel)
theorem tb_367 : (Jvm.Cond.selects "WeightedForest$Survey" ({ cls := "WeightedForest$Survey", name := "vertexOnPath", desc := "(III)I" } : Jvm.MethodName) ({ cls := "WeightedForest$Survey", name := "vertexOnPath", desc := "(III)I" } : Jvm.MethodName)) ∈ TB := TB_in 367 (by decide +kernel) (by decide +kernel)
theorem tb_368 : (Jvm.Cond.code ({ cls := "WeightedForest$Survey", name := "vertexOnPath", desc := "(III)I" } : Jvm.MethodName) prog_7_method_8_code (6 : Nat) (Option.some Jvm.ClassFile.FieldType.int)) ∈ TB := TB_in 368 (by decide +kernel) (by decide +kernel)
theorem tb_369 : (Jvm.Cond.methodLink "WeightedForest$Survey" (51 : Nat) ({ cls := "WeightedForest$Survey", name := "stepToward", desc := "(II)I" } : Jvm.MethodName)) ∈ TB := TB_in 369 (by decide +kernel) (by decide +kernel)
theorem tb_371 : (Jvm.Cond.instanceMethod ({ cls := "WeightedForest$Survey", name := "stepToward", desc := "(II)I" } : Jvm.MethodName)) ∈ TB := TB_in 371 (by decide +kernel) (by decide +kernel)
theorem tb_372 : (Jvm.Cond.code ({ cls := "WeightedForest$Survey", name := "stepToward", desc := "(II)I" } : Jvm.MethodName) prog_7_method_9_code (4 : Nat) (Option.some Jvm.ClassFile.FieldType.int)) ∈ TB := TB_in 372 (by decide +kernel) (by decide +kernel)
theorem tb_373 : (Jvm.Cond.methodLink "WeightedForest$Survey" (54 : Nat) ({ cls := "WeightedForest$Forest", name := "hasEdge", desc := "(II)Z" } : Jvm.MethodName)) ∈ TB := TB_in 373 (by decide +kernel) (by decide +kernel)
theorem tb_374 : (Jvm.Cond.methodLink "WeightedForestLaw" (50 : Nat) ({ cls := "WeightedForest", name := "eccentricity", desc := "(I)I" } : Jvm.MethodName)) ∈ TB := TB_in 374 (by decide +kernel) (by decide +kernel)
theorem tb_375 : (Jvm.Cond.instanceMethod ({ cls := "WeightedForest", name := "eccentricity", desc := "(I)I" } : Jvm.MethodName)) ∈ TB := TB_in 375 (by decide +kernel) (by decide +kernel)
theorem tb_376 : (Jvm.Cond.selects "WeightedForest" ({ cls := "WeightedForest", name := "eccentricity", desc := "(I)I" } : Jvm.MethodName) ({ cls := "WeightedForest", name := "eccentricity", desc := "(I)I" } : Jvm.MethodName)) ∈ TB := TB_in 376 (by decide +kernel) (by decide +kernel)
theorem tb_377 : (Jvm.Cond.code ({ cls := "WeightedForest", name := "eccentricity", desc := "(I)I" } : Jvm.MethodName) prog_1_method_19_code (2 : Nat) (Option.some Jvm.ClassFile.FieldType.int)) ∈ TB := TB_in 377 (by decide +kernel) (by decide +kernel)
theorem tb_378 : (Jvm.Cond.methodLink "WeightedForest" (152 : Nat) ({ cls := "WeightedForest$Survey", name := "greatestFrom", desc := "(I)I" } : Jvm.MethodName)) ∈ TB := TB_in 378 (by decide +kernel) (by decide +kernel)
theorem tb_379 : (Jvm.Cond.instanceMethod ({ cls := "WeightedForest$Survey", name := "greatestFrom", desc := "(I)I" } : Jvm.MethodName)) ∈ TB := TB_in 379 (by decide +kernel) (by decide +kernel)
theorem tb_380 : (Jvm.Cond.selects "WeightedForest$Survey" ({ cls := "WeightedForest$Survey", name := "greatestFrom", desc := "(I)I" } : Jvm.MethodName) ({ cls := "WeightedForest$Survey", name := "greatestFrom", desc := "(I)I" } : Jvm.MethodName)) ∈ TB := TB_in 380 (by decide +kernel) (by decide +kernel)
theorem tb_381 : (Jvm.Cond.code ({ cls := "WeightedForest$Survey", name := "greatestFrom", desc := "(I)I" } : Jvm.MethodName) prog_7_method_10_code (2 : Nat) (Option.some Jvm.ClassFile.FieldType.int)) ∈ TB := TB_in 381 (by decide +kernel) (by decide +kernel)
theorem tb_382 : (Jvm.Cond.methodLink "WeightedForest$Survey" (57 : Nat) ({ cls := "WeightedForest$Survey", name := "firstFarthest", desc := "(I)I" } : Jvm.MethodName)) ∈ TB := TB_in 382 (by decide +kernel) (by decide +kernel)
theorem tb_383 : (Jvm.Cond.instanceMethod ({ cls := "WeightedForest$Survey", name := "firstFarthest", desc := "(I)I" } : Jvm.MethodName)) ∈ TB := TB_in 383 (by decide +kernel) (by decide +kernel)
theorem tb_384 : (Jvm.Cond.selects "WeightedForest$Survey" ({ cls := "WeightedForest$Survey", name := "firstFarthest", desc := "(I)I" } : Jvm.MethodName) ({ cls := "WeightedForest$Survey", name := "firstFarthest", desc := "(I)I" } : Jvm.MethodName)) ∈ TB := TB_in 384 (by decide +kernel) (by decide +kernel)
theorem tb_385 : (Jvm.Cond.code ({ cls := "WeightedForest$Survey", name := "firstFarthest", desc := "(I)I" } : Jvm.MethodName) prog_7_method_11_code (6 : Nat) (Option.some Jvm.ClassFile.FieldType.int)) ∈ TB := TB_in 385 (by decide +kernel) (by decide +kernel)
theorem tb_386 : (Jvm.Cond.methodLink "WeightedForestLaw" (53 : Nat) ({ cls := "WeightedForest", name := "diameter", desc := "(I)I" } : Jvm.MethodName)) ∈ TB := TB_in 386 (by decide +kernel) (by decide +kernel)
theorem tb_387 : (Jvm.Cond.instanceMethod ({ cls := "WeightedForest", name := "diameter", desc := "(I)I" } : Jvm.MethodName)) ∈ TB := TB_in 387 (by decide +kernel) (by decide +kernel)
theorem tb_388 : (Jvm.Cond.selects "WeightedForest" ({ cls := "WeightedForest", name := "diameter", desc := "(I)I" } : Jvm.MethodName) ({ cls := "WeightedForest", name := "diameter", desc := "(I)I" } : Jvm.MethodName)) ∈ TB := TB_in 388 (by decide +kernel) (by decide +kernel)
theorem tb_389 : (Jvm.Cond.code ({ cls := "WeightedForest", name := "diameter", desc := "(I)I" } : Jvm.MethodName) prog_1_method_20_code (2 : Nat) (Option.some Jvm.ClassFile.FieldType.int)) ∈ TB := TB_in 389 (by decide +kernel) (by decide +kernel)
theorem tb_390 : (Jvm.Cond.methodLink "WeightedForest" (155 : Nat) ({ cls := "WeightedForest$Survey", name := "widthAround", desc := "(I)I" } : Jvm.MethodName)) ∈ TB := TB_in 390 (by decide +kernel) (by decide +kernel)
theorem tb_391 : (Jvm.Cond.instanceMethod ({ cls := "WeightedForest$Survey", name := "widthAround", desc := "(I)I" } : Jvm.MethodName)) ∈ TB := TB_in 391 (by decide +kernel) (by decide +kernel)
theorem tb_392 : (Jvm.Cond.selects "WeightedForest$Survey" ({ cls := "WeightedForest$Survey", name := "widthAround", desc := "(I)I" } : Jvm.MethodName) ({ cls := "WeightedForest$Survey", name := "widthAround", desc := "(I)I" } : Jvm.MethodName)) ∈ TB := TB_in 392 (by decide +kernel) (by decide +kernel)
theorem tb_393 : (Jvm.Cond.code ({ cls := "WeightedForest$Survey", name := "widthAround", desc := "(I)I" } : Jvm.MethodName) prog_7_method_12_code (2 : Nat) (Option.some Jvm.ClassFile.FieldType.int)) ∈ TB := TB_in 393 (by decide +kernel) (by decide +kernel)
theorem tb_394 : (Jvm.Cond.methodLink "WeightedForest$Survey" (61 : Nat) ({ cls := "WeightedForest$Survey", name := "firstWideEnd", desc := "(I)I" } : Jvm.MethodName)) ∈ TB := TB_in 394 (by decide +kernel) (by decide +kernel)
theorem tb_395 : (Jvm.Cond.instanceMethod ({ cls := "WeightedForest$Survey", name := "firstWideEnd", desc := "(I)I" } : Jvm.MethodName)) ∈ TB := TB_in 395 (by decide +kernel) (by decide +kernel)
theorem tb_396 : (Jvm.Cond.selects "WeightedForest$Survey" ({ cls := "WeightedForest$Survey", name := "firstWideEnd", desc := "(I)I" } : Jvm.MethodName) ({ cls := "WeightedForest$Survey", name := "firstWideEnd", desc := "(I)I" } : Jvm.MethodName)) ∈ TB := TB_in 396 (by decide +kernel) (by decide +kernel)
theorem tb_397 : (Jvm.Cond.code ({ cls := "WeightedForest$Survey", name := "firstWideEnd", desc := "(I)I" } : Jvm.MethodName) prog_7_method_13_code (5 : Nat) (Option.some Jvm.ClassFile.FieldType.int)) ∈ TB := TB_in 397 (by decide +kernel) (by decide +kernel)
theorem tb_398 : (Jvm.Cond.methodLink "WeightedForest$Survey" (64 : Nat) ({ cls := "WeightedForest$Survey", name := "greatestFrom", desc := "(I)I" } : Jvm.MethodName)) ∈ TB := TB_in 398 (by decide +kernel) (by decide +kernel)
theorem tb_399 : (Jvm.Cond.methodLink "WeightedForestLaw" (56 : Nat) ({ cls := "WeightedForest", name := "diameterEnd", desc := "(II)I" } : Jvm.MethodName)) ∈ TB := TB_in 399 (by decide +kernel) (by decide +kernel)
theorem tb_400 : (Jvm.Cond.instanceMethod ({ cls := "WeightedForest", name := "diameterEnd", desc := "(II)I" } : Jvm.MethodName)) ∈ TB := TB_in 400 (by decide +kernel) (by decide +kernel)
theorem tb_401 : (Jvm.Cond.selects "WeightedForest" ({ cls := "WeightedForest", name := "diameterEnd", desc := "(II)I" } : Jvm.MethodName) ({ cls := "WeightedForest", name := "diameterEnd", desc := "(II)I" } : Jvm.MethodName)) ∈ TB := TB_in 401 (by decide +kernel) (by decide +kernel)
theorem tb_402 : (Jvm.Cond.code ({ cls := "WeightedForest", name := "diameterEnd", desc := "(II)I" } : Jvm.MethodName) prog_1_method_21_code (4 : Nat) (Option.some Jvm.ClassFile.FieldType.int)) ∈ TB := TB_in 402 (by decide +kernel) (by decide +kernel)
theorem tb_403 : (Jvm.Cond.methodLink "WeightedForest" (158 : Nat) ({ cls := "WeightedForest$Survey", name := "firstWideEnd", desc := "(I)I" } : Jvm.MethodName)) ∈ TB := TB_in 403 (by decide +kernel) (by decide +kernel)
theorem tb_404 : (Jvm.Cond.methodLink "WeightedForest" (161 : Nat) ({ cls := "WeightedForest$Survey", name := "firstFarthest", desc := "(I)I" } : Jvm.MethodName)) ∈ TB := TB_in 404 (by decide +kernel) (by decide +kernel)
theorem tb_405 : (Jvm.Cond.methodLink "WeightedForestLaw" (59 : Nat) ({ cls := "WeightedForest", name := "centre", desc := "(I)I" } : Jvm.MethodName)) ∈ TB := TB_in 405 (by decide +kernel) (by decide +kernel)
theorem tb_406 : (Jvm.Cond.instanceMethod ({ cls := "WeightedForest", name := "centre", desc := "(I)I" } : Jvm.MethodName)) ∈ TB := TB_in 406 (by decide +kernel) (by decide +kernel)
theorem tb_407 : (Jvm.Cond.selects "WeightedForest" ({ cls := "WeightedForest", name := "centre", desc := "(I)I" } : Jvm.MethodName) ({ cls := "WeightedForest", name := "centre", desc := "(I)I" } : Jvm.MethodName)) ∈ TB := TB_in 407 (by decide +kernel) (by decide +kernel)
theorem tb_408 : (Jvm.Cond.code ({ cls := "WeightedForest", name := "centre", desc := "(I)I" } : Jvm.MethodName) prog_1_method_22_code (2 : Nat) (Option.some Jvm.ClassFile.FieldType.int)) ∈ TB := TB_in 408 (by decide +kernel) (by decide +kernel)
theorem tb_409 : (Jvm.Cond.methodLink "WeightedForest" (164 : Nat) ({ cls := "WeightedForest$Survey", name := "middleOf", desc := "(I)I" } : Jvm.MethodName)) ∈ TB := TB_in 409 (by decide +kernel) (by decide +kernel)
theorem tb_410 : (Jvm.Cond.instanceMethod ({ cls := "WeightedForest$Survey", name := "middleOf", desc := "(I)I" } : Jvm.MethodName)) ∈ TB := TB_in 410 (by decide +kernel) (by decide +kernel)
theorem tb_411 : (Jvm.Cond.selects "WeightedForest$Survey" ({ cls := "WeightedForest$Survey", name := "middleOf", desc := "(I)I" } : Jvm.MethodName) ({ cls := "WeightedForest$Survey", name := "middleOf", desc := "(I)I" } : Jvm.MethodName)) ∈ TB := TB_in 411 (by decide +kernel) (by decide +kernel)
theorem tb_412 : (Jvm.Cond.code ({ cls := "WeightedForest$Survey", name := "middleOf", desc := "(I)I" } : Jvm.MethodName) prog_7_method_14_code (5 : Nat) (Option.some Jvm.ClassFile.FieldType.int)) ∈ TB := TB_in 412 (by decide +kernel) (by decide +kernel)
theorem tb_413 : (Jvm.Cond.constant "WeightedForest$Survey" (67 : Nat) (1000000000 : Int32)) ∈ TB := TB_in 413 (by decide +kernel) (by decide +kernel)
theorem tb_414 : (Jvm.Cond.methodLink "WeightedForestLaw" (62 : Nat) ({ cls := "WeightedForest", name := "median", desc := "(I)I" } : Jvm.MethodName)) ∈ TB := TB_in 414 (by decide +kernel) (by decide +kernel)
theorem tb_415 : (Jvm.Cond.instanceMethod ({ cls := "WeightedForest", name := "median", desc := "(I)I" } : Jvm.MethodName)) ∈ TB := TB_in 415 (by decide +kernel) (by decide +kernel)
theorem tb_416 : (Jvm.Cond.selects "WeightedForest" ({ cls := "WeightedForest", name := "median", desc := "(I)I" } : Jvm.MethodName) ({ cls := "WeightedForest", name := "median", desc := "(I)I" } : Jvm.MethodName)) ∈ TB := TB_in 416 (by decide +kernel) (by decide +kernel)
theorem tb_417 : (Jvm.Cond.code ({ cls := "WeightedForest", name := "median", desc := "(I)I" } : Jvm.MethodName) prog_1_method_23_code (2 : Nat) (Option.some Jvm.ClassFile.FieldType.int)) ∈ TB := TB_in 417 (by decide +kernel) (by decide +kernel)
theorem tb_418 : (Jvm.Cond.methodLink "WeightedForest" (167 : Nat) ({ cls := "WeightedForest$Survey", name := "cheapestOf", desc := "(I)I" } : Jvm.MethodName)) ∈ TB := TB_in 418 (by decide +kernel) (by decide +kernel)
theorem tb_419 : (Jvm.Cond.instanceMethod ({ cls := "WeightedForest$Survey", name := "cheapestOf", desc := "(I)I" } : Jvm.MethodName)) ∈ TB := TB_in 419 (by decide +kernel) (by decide +kernel)
theorem tb_420 : (Jvm.Cond.selects "WeightedForest$Survey" ({ cls := "WeightedForest$Survey", name := "cheapestOf", desc := "(I)I" } : Jvm.MethodName) ({ cls := "WeightedForest$Survey", name := "cheapestOf", desc := "(I)I" } : Jvm.MethodName)) ∈ TB := TB_in 420 (by decide +kernel) (by decide +kernel)
theorem tb_421 : (Jvm.Cond.code ({ cls := "WeightedForest$Survey", name := "cheapestOf", desc := "(I)I" } : Jvm.MethodName) prog_7_method_16_code (5 : Nat) (Option.some Jvm.ClassFile.FieldType.int)) ∈ TB := TB_in 421 (by decide +kernel) (by decide +kernel)
theorem tb_422 : (Jvm.Cond.methodLink "WeightedForest$Survey" (71 : Nat) ({ cls := "WeightedForest$Survey", name := "priceOf", desc := "(I)I" } : Jvm.MethodName)) ∈ TB := TB_in 422 (by decide +kernel) (by decide +kernel)
theorem tb_423 : (Jvm.Cond.instanceMethod ({ cls := "WeightedForest$Survey", name := "priceOf", desc := "(I)I" } : Jvm.MethodName)) ∈ TB := TB_in 423 (by decide +kernel) (by decide +kernel)
theorem tb_424 : (Jvm.Cond.selects "WeightedForest$Survey" ({ cls := "WeightedForest$Survey", name := "priceOf", desc := "(I)I" } : Jvm.MethodName) ({ cls := "WeightedForest$Survey", name := "priceOf", desc := "(I)I" } : Jvm.MethodName)) ∈ TB := TB_in 424 (by decide +kernel) (by decide +kernel)
theorem tb_425 : (Jvm.Cond.code ({ cls := "WeightedForest$Survey", name := "priceOf", desc := "(I)I" } : Jvm.MethodName) prog_7_method_15_code (4 : Nat) (Option.some Jvm.ClassFile.FieldType.int)) ∈ TB := TB_in 425 (by decide +kernel) (by decide +kernel)
theorem tb_426 : (Jvm.Cond.methodLink "WeightedForest$Survey" (68 : Nat) ({ cls := "WeightedForest$Forest", name := "weightOf", desc := "(I)I" } : Jvm.MethodName)) ∈ TB := TB_in 426 (by decide +kernel) (by decide +kernel)
theorem tb_427 : (Jvm.Cond.methodLink "WeightedForestLaw" (65 : Nat) ({ cls := "WeightedForest", name := "cost", desc := "(I)I" } : Jvm.MethodName)) ∈ TB := TB_in 427 (by decide +kernel) (by decide +kernel)
theorem tb_428 : (Jvm.Cond.instanceMethod ({ cls := "WeightedForest", name := "cost", desc := "(I)I" } : Jvm.MethodName)) ∈ TB := TB_in 428 (by decide +kernel) (by decide +kernel)
theorem tb_429 : (Jvm.Cond.selects "WeightedForest" ({ cls := "WeightedForest", name := "cost", desc := "(I)I" } : Jvm.MethodName) ({ cls := "WeightedForest", name := "cost", desc := "(I)I" } : Jvm.MethodName)) ∈ TB := TB_in 429 (by decide +kernel) (by decide +kernel)
theorem tb_430 : (Jvm.Cond.code ({ cls := "WeightedForest", name := "cost", desc := "(I)I" } : Jvm.MethodName) prog_1_method_24_code (2 : Nat) (Option.some Jvm.ClassFile.FieldType.int)) ∈ TB := TB_in 430 (by decide +kernel) (by decide +kernel)
theorem tb_431 : (Jvm.Cond.methodLink "WeightedForest" (170 : Nat) ({ cls := "WeightedForest$Survey", name := "priceOf", desc := "(I)I" } : Jvm.MethodName)) ∈ TB := TB_in 431 (by decide +kernel) (by decide +kernel)
theorem tb_432 : (Jvm.Cond.methodLink "WeightedForestLaw" (68 : Nat) ({ cls := "WeightedForest", name := "meeting", desc := "(III)I" } : Jvm.MethodName)) ∈ TB := TB_in 432 (by decide +kernel) (by decide +kernel)
theorem tb_433 : (Jvm.Cond.instanceMethod ({ cls := "WeightedForest", name := "meeting", desc := "(III)I" } : Jvm.MethodName)) ∈ TB := TB_in 433 (by decide +kernel) (by decide +kernel)
theorem tb_434 : (Jvm.Cond.selects "WeightedForest" ({ cls := "WeightedForest", name := "meeting", desc := "(III)I" } : Jvm.MethodName) ({ cls := "WeightedForest", name := "meeting", desc := "(III)I" } : Jvm.MethodName)) ∈ TB := TB_in 434 (by decide +kernel) (by decide +kernel)
theorem tb_435 : (Jvm.Cond.code ({ cls := "WeightedForest", name := "meeting", desc := "(III)I" } : Jvm.MethodName) prog_1_method_25_code (4 : Nat) (Option.some Jvm.ClassFile.FieldType.int)) ∈ TB := TB_in 435 (by decide +kernel) (by decide +kernel)
theorem tb_436 : (Jvm.Cond.methodLink "WeightedForest" (173 : Nat) ({ cls := "WeightedForest$Survey", name := "meetingOf", desc := "(III)I" } : Jvm.MethodName)) ∈ TB := TB_in 436 (by decide +kernel) (by decide +kernel)
theorem tb_437 : (Jvm.Cond.instanceMethod ({ cls := "WeightedForest$Survey", name := "meetingOf", desc := "(III)I" } : Jvm.MethodName)) ∈ TB := TB_in 437 (by decide +kernel) (by decide +kernel)
theorem tb_438 : (Jvm.Cond.selects "WeightedForest$Survey" ({ cls := "WeightedForest$Survey", name := "meetingOf", desc := "(III)I" } : Jvm.MethodName) ({ cls := "WeightedForest$Survey", name := "meetingOf", desc := "(III)I" } : Jvm.MethodName)) ∈ TB := TB_in 438 (by decide +kernel) (by decide +kernel)
theorem tb_439 : (Jvm.Cond.code ({ cls := "WeightedForest$Survey", name := "meetingOf", desc := "(III)I" } : Jvm.MethodName) prog_7_method_17_code (5 : Nat) (Option.some Jvm.ClassFile.FieldType.int)) ∈ TB := TB_in 439 (by decide +kernel) (by decide +kernel)
theorem tb_440 : (Jvm.Cond.methodLink "WeightedForest$Survey" (74 : Nat) ({ cls := "WeightedForest$Survey", name := "onPath", desc := "(III)Z" } : Jvm.MethodName)) ∈ TB := TB_in 440 (by decide +kernel) (by decide +kernel)
theorem tb_442 : (Jvm.Cond.instanceMethod ({ cls := "WeightedForest$Survey", name := "onPath", desc := "(III)Z" } : Jvm.MethodName)) ∈ TB := TB_in 442 (by decide +kernel) (by decide +kernel)
theorem tb_443 : (Jvm.Cond.code ({ cls := "WeightedForest$Survey", name := "onPath", desc := "(III)Z" } : Jvm.MethodName) prog_7_method_18_code (4 : Nat) (Option.some Jvm.ClassFile.FieldType.boolean)) ∈ TB := TB_in 443 (by decide +kernel) (by decide +kernel)
theorem tb_444 : (Jvm.Cond.methodLink "WeightedForestLaw" (71 : Nat) ({ cls := "WeightedForest", name := "rounds", desc := "(I)I" } : Jvm.MethodName)) ∈ TB := TB_in 444 (by decide +kernel) (by decide +kernel)
theorem tb_445 : (Jvm.Cond.instanceMethod ({ cls := "WeightedForest", name := "rounds", desc := "(I)I" } : Jvm.MethodName)) ∈ TB := TB_in 445 (by decide +kernel) (by decide +kernel)
theorem tb_446 : (Jvm.Cond.selects "WeightedForest" ({ cls := "WeightedForest", name := "rounds", desc := "(I)I" } : Jvm.MethodName) ({ cls := "WeightedForest", name := "rounds", desc := "(I)I" } : Jvm.MethodName)) ∈ TB := TB_in 446 (by decide +kernel) (by decide +kernel)
theorem tb_447 : (Jvm.Cond.code ({ cls := "WeightedForest", name := "rounds", desc := "(I)I" } : Jvm.MethodName) prog_1_method_26_code (2 : Nat) (Option.some Jvm.ClassFile.FieldType.int)) ∈ TB := TB_in 447 (by decide +kernel) (by decide +kernel)
theorem tb_448 : (Jvm.Cond.methodLink "WeightedForest" (176 : Nat) ({ cls := "WeightedForest$Contraction", name := "contract", desc := "(LWeightedForest$Forest;I)V" } : Jvm.MethodName)) ∈ TB := TB_in 448 (by decide +kernel) (by decide +kernel)
theorem tb_449 : (Jvm.Cond.instanceMethod ({ cls := "WeightedForest$Contraction", name := "contract", desc := "(LWeightedForest$Forest;I)V" } : Jvm.MethodName)) ∈ TB := TB_in 449 (by decide +kernel) (by decide +kernel)
theorem tb_450 : (Jvm.Cond.selects "WeightedForest$Contraction" ({ cls := "WeightedForest$Contraction", name := "contract", desc := "(LWeightedForest$Forest;I)V" } : Jvm.MethodName) ({ cls := "WeightedForest$Contraction", name := "contract", desc := "(LWeightedForest$Forest;I)V" } : Jvm.MethodName)) ∈ TB := TB_in 450 (by decide +kernel) (by decide +kernel)
theorem tb_451 : (Jvm.Cond.code ({ cls := "WeightedForest$Contraction", name := "contract", desc := "(LWeightedForest$Forest;I)V" } : Jvm.MethodName) prog_2_method_2_code (3 : Nat) (Option.none : Option Jvm.ClassFile.FieldType)) ∈ TB := TB_in 451 (by decide +kernel) (by decide +kernel)
theorem tb_452 : (Jvm.Cond.methodLink "WeightedForest$Contraction" (27 : Nat) ({ cls := "WeightedForest$Contraction", name := "copyEdges", desc := "(LWeightedForest$Forest;)V" } : Jvm.MethodName)) ∈ TB := TB_in 452 (by decide +kernel) (by decide +kernel)
theorem tb_454 : (Jvm.Cond.instanceMethod ({ cls := "WeightedForest$Contraction", name := "copyEdges", desc := "(LWeightedForest$Forest;)V" } : Jvm.MethodName)) ∈ TB := TB_in 454 (by decide +kernel) (by decide +kernel)
theorem tb_455 : (Jvm.Cond.code ({ cls := "WeightedForest$Contraction", name := "copyEdges", desc := "(LWeightedForest$Forest;)V" } : Jvm.MethodName) prog_2_method_7_code (4 : Nat) (Option.none : Option Jvm.ClassFile.FieldType)) ∈ TB := TB_in 455 (by decide +kernel) (by decide +kernel)
theorem tb_456 : (Jvm.Cond.methodLink "WeightedForest$Contraction" (55 : Nat) ({ cls := "WeightedForest$Forest", name := "vertices", desc := "()I" } : Jvm.MethodName)) ∈ TB := TB_in 456 (by decide +kernel) (by decide +kernel)
theorem tb_457 : (Jvm.Cond.methodLink "WeightedForest$Contraction" (61 : Nat) ({ cls := "WeightedForest$Forest", name := "edgeBetween", desc := "(II)I" } : Jvm.MethodName)) ∈ TB := TB_in 457 (by decide +kernel) (by decide +kernel)
theorem tb_458 : (Jvm.Cond.methodLink "WeightedForest$Contraction" (31 : Nat) ({ cls := "WeightedForest$Contraction", name := "gatherTree", desc := "(I)V" } : Jvm.MethodName)) ∈ TB := TB_in 458 (by decide +kernel) (by decide +kernel)
theorem tb_460 : (Jvm.Cond.instanceMethod ({ cls := "WeightedForest$Contraction", name := "gatherTree", desc := "(I)V" } : Jvm.MethodName)) ∈ TB := TB_in 460 (by decide +kernel) (by decide +kernel)
theorem tb_461 : (Jvm.Cond.code ({ cls := "WeightedForest$Contraction", name := "gatherTree", desc := "(I)V" } : Jvm.MethodName) prog_2_method_8_code (3 : Nat) (Option.none : Option Jvm.ClassFile.FieldType)) ∈ TB := TB_in 461 (by decide +kernel) (by decide +kernel)
theorem tb_462 : (Jvm.Cond.methodLink "WeightedForest$Contraction" (48 : Nat) ({ cls := "WeightedForest$Contraction", name := "isVertex", desc := "(I)Z" } : Jvm.MethodName)) ∈ TB := TB_in 462 (by decide +kernel) (by decide +kernel)
theorem tb_464 : (Jvm.Cond.instanceMethod ({ cls := "WeightedForest$Contraction", name := "isVertex", desc := "(I)Z" } : Jvm.MethodName)) ∈ TB := TB_in 464 (by decide +kernel) (by decide +kernel)
theorem tb_465 : (Jvm.Cond.code ({ cls := "WeightedForest$Contraction", name := "isVertex", desc := "(I)Z" } : Jvm.MethodName) prog_2_method_6_code (2 : Nat) (Option.some Jvm.ClassFile.FieldType.boolean)) ∈ TB := TB_in 465 (by decide +kernel) (by decide +kernel)
theorem tb_466 : (Jvm.Cond.methodLink "WeightedForest$Contraction" (65 : Nat) ({ cls := "WeightedForest$Contraction", name := "gatherNeighbours", desc := "()V" } : Jvm.MethodName)) ∈ TB := TB_in 466 (by decide +kernel) (by decide +kernel)
theorem tb_468 : (Jvm.Cond.instanceMethod ({ cls := "WeightedForest$Contraction", name := "gatherNeighbours", desc := "()V" } : Jvm.MethodName)) ∈ TB := TB_in 468 (by decide +kernel) (by decide +kernel)
theorem tb_469 : (Jvm.Cond.code ({ cls := "WeightedForest$Contraction", name := "gatherNeighbours", desc := "()V" } : Jvm.MethodName) prog_2_method_9_code (3 : Nat) (Option.none : Option Jvm.ClassFile.FieldType)) ∈ TB := TB_in 469 (by decide +kernel) (by decide +kernel)
theorem tb_470 : (Jvm.Cond.methodLink "WeightedForest$Contraction" (42 : Nat) ({ cls := "WeightedForest$Contraction", name := "rake", desc := "()V" } : Jvm.MethodName)) ∈ TB := TB_in 470 (by decide +kernel) (by decide +kernel)
theorem tb_472 : (Jvm.Cond.instanceMethod ({ cls := "WeightedForest$Contraction", name := "rake", desc := "()V" } : Jvm.MethodName)) ∈ TB := TB_in 472 (by decide +kernel) (by decide +kernel)
theorem tb_473 : (Jvm.Cond.code ({ cls := "WeightedForest$Contraction", name := "rake", desc := "()V" } : Jvm.MethodName) prog_2_method_10_code (2 : Nat) (Option.none : Option Jvm.ClassFile.FieldType)) ∈ TB := TB_in 473 (by decide +kernel) (by decide +kernel)
theorem tb_474 : (Jvm.Cond.methodLink "WeightedForest$Contraction" (68 : Nat) ({ cls := "WeightedForest$Contraction", name := "removeGreatest", desc := "()V" } : Jvm.MethodName)) ∈ TB := TB_in 474 (by decide +kernel) (by decide +kernel)
theorem tb_476 : (Jvm.Cond.instanceMethod ({ cls := "WeightedForest$Contraction", name := "removeGreatest", desc := "()V" } : Jvm.MethodName)) ∈ TB := TB_in 476 (by decide +kernel) (by decide +kernel)
theorem tb_477 : (Jvm.Cond.code ({ cls := "WeightedForest$Contraction", name := "removeGreatest", desc := "()V" } : Jvm.MethodName) prog_2_method_11_code (2 : Nat) (Option.none : Option Jvm.ClassFile.FieldType)) ∈ TB := TB_in 477 (by decide +kernel) (by decide +kernel)
theorem tb_478 : (Jvm.Cond.methodLink "WeightedForest$Contraction" (75 : Nat) ({ cls := "WeightedForest$Contraction", name := "remove", desc := "(I)V" } : Jvm.MethodName)) ∈ TB := TB_in 478 (by decide +kernel) (by decide +kernel)
theorem tb_480 : (Jvm.Cond.instanceMethod ({ cls := "WeightedForest$Contraction", name := "remove", desc := "(I)V" } : Jvm.MethodName)) ∈ TB := TB_in 480 (by decide +kernel) (by decide +kernel)
theorem tb_481 : (Jvm.Cond.code ({ cls := "WeightedForest$Contraction", name := "remove", desc := "(I)V" } : Jvm.MethodName) prog_2_method_17_code (3 : Nat) (Option.none : Option Jvm.ClassFile.FieldType)) ∈ TB := TB_in 481 (by decide +kernel) (by decide +kernel)
theorem tb_482 : (Jvm.Cond.methodLink "WeightedForest$Contraction" (71 : Nat) ({ cls := "WeightedForest$Contraction", name := "degreeOf", desc := "(I)I" } : Jvm.MethodName)) ∈ TB := TB_in 482 (by decide +kernel) (by decide +kernel)
theorem tb_484 : (Jvm.Cond.instanceMethod ({ cls := "WeightedForest$Contraction", name := "degreeOf", desc := "(I)I" } : Jvm.MethodName)) ∈ TB := TB_in 484 (by decide +kernel) (by decide +kernel)
theorem tb_485 : (Jvm.Cond.code ({ cls := "WeightedForest$Contraction", name := "degreeOf", desc := "(I)I" } : Jvm.MethodName) prog_2_method_16_code (4 : Nat) (Option.some Jvm.ClassFile.FieldType.int)) ∈ TB := TB_in 485 (by decide +kernel) (by decide +kernel)
theorem tb_486 : (Jvm.Cond.methodLink "WeightedForest$Contraction" (45 : Nat) ({ cls := "WeightedForest$Contraction", name := "compress", desc := "()V" } : Jvm.MethodName)) ∈ TB := TB_in 486 (by decide +kernel) (by decide +kernel)
theorem tb_488 : (Jvm.Cond.instanceMethod ({ cls := "WeightedForest$Contraction", name := "compress", desc := "()V" } : Jvm.MethodName)) ∈ TB := TB_in 488 (by decide +kernel) (by decide +kernel)
theorem tb_489 : (Jvm.Cond.code ({ cls := "WeightedForest$Contraction", name := "compress", desc := "()V" } : Jvm.MethodName) prog_2_method_12_code (2 : Nat) (Option.none : Option Jvm.ClassFile.FieldType)) ∈ TB := TB_in 489 (by decide +kernel) (by decide +kernel)
theorem tb_490 : (Jvm.Cond.methodLink "WeightedForest$Contraction" (78 : Nat) ({ cls := "WeightedForest$Contraction", name := "makeEdgesOld", desc := "()V" } : Jvm.MethodName)) ∈ TB := TB_in 490 (by decide +kernel) (by decide +kernel)
theorem tb_492 : (Jvm.Cond.instanceMethod ({ cls := "WeightedForest$Contraction", name := "makeEdgesOld", desc := "()V" } : Jvm.MethodName)) ∈ TB := TB_in 492 (by decide +kernel) (by decide +kernel)
theorem tb_493 : (Jvm.Cond.code ({ cls := "WeightedForest$Contraction", name := "makeEdgesOld", desc := "()V" } : Jvm.MethodName) prog_2_method_13_code (3 : Nat) (Option.none : Option Jvm.ClassFile.FieldType)) ∈ TB := TB_in 493 (by decide +kernel) (by decide +kernel)
theorem tb_494 : (Jvm.Cond.methodLink "WeightedForest$Contraction" (84 : Nat) ({ cls := "java/lang/Math", name := "min", desc := "(II)I" } : Jvm.MethodName)) ∈ TB := TB_in 494 (by decide +kernel) (by decide +kernel)
theorem tb_495 : (Jvm.Cond.methodLink "WeightedForest$Contraction" (81 : Nat) ({ cls := "WeightedForest$Contraction", name := "bypass", desc := "(I)V" } : Jvm.MethodName)) ∈ TB := TB_in 495 (by decide +kernel) (by decide +kernel)
theorem tb_497 : (Jvm.Cond.instanceMethod ({ cls := "WeightedForest$Contraction", name := "bypass", desc := "(I)V" } : Jvm.MethodName)) ∈ TB := TB_in 497 (by decide +kernel) (by decide +kernel)
theorem tb_498 : (Jvm.Cond.code ({ cls := "WeightedForest$Contraction", name := "bypass", desc := "(I)V" } : Jvm.MethodName) prog_2_method_14_code (4 : Nat) (Option.none : Option Jvm.ClassFile.FieldType)) ∈ TB := TB_in 498 (by decide +kernel) (by decide +kernel)
theorem tb_499 : (Jvm.Cond.methodLink "WeightedForest$Contraction" (89 : Nat) ({ cls := "WeightedForest$Contraction", name := "neighbourAfter", desc := "(II)I" } : Jvm.MethodName)) ∈ TB := TB_in 499 (by decide +kernel) (by decide +kernel)
theorem tb_501 : (Jvm.Cond.instanceMethod ({ cls := "WeightedForest$Contraction", name := "neighbourAfter", desc := "(II)I" } : Jvm.MethodName)) ∈ TB := TB_in 501 (by decide +kernel) (by decide +kernel)
theorem tb_502 : (Jvm.Cond.code ({ cls := "WeightedForest$Contraction", name := "neighbourAfter", desc := "(II)I" } : Jvm.MethodName) prog_2_method_15_code (4 : Nat) (Option.some Jvm.ClassFile.FieldType.int)) ∈ TB := TB_in 502 (by decide +kernel) (by decide +kernel)
theorem tb_503 : (Jvm.Cond.methodLink "WeightedForest" (180 : Nat) ({ cls := "WeightedForest$Contraction", name := "roundCount", desc := "()I" } : Jvm.MethodName)) ∈ TB := TB_in 503 (by decide +kernel) (by decide +kernel)
theorem tb_504 : (Jvm.Cond.instanceMethod ({ cls := "WeightedForest$Contraction", name := "roundCount", desc := "()I" } : Jvm.MethodName)) ∈ TB := TB_in 504 (by decide +kernel) (by decide +kernel)
theorem tb_505 : (Jvm.Cond.selects "WeightedForest$Contraction" ({ cls := "WeightedForest$Contraction", name := "roundCount", desc := "()I" } : Jvm.MethodName) ({ cls := "WeightedForest$Contraction", name := "roundCount", desc := "()I" } : Jvm.MethodName)) ∈ TB := TB_in 505 (by decide +kernel) (by decide +kernel)
theorem tb_506 : (Jvm.Cond.code ({ cls := "WeightedForest$Contraction", name := "roundCount", desc := "()I" } : Jvm.MethodName) prog_2_method_3_code (1 : Nat) (Option.some Jvm.ClassFile.FieldType.int)) ∈ TB := TB_in 506 (by decide +kernel) (by decide +kernel)
theorem tb_507 : (Jvm.Cond.methodLink "WeightedForestLaw" (74 : Nat) ({ cls := "WeightedForest", name := "removalRound", desc := "(I)I" } : Jvm.MethodName)) ∈ TB := TB_in 507 (by decide +kernel) (by decide +kernel)
theorem tb_508 : (Jvm.Cond.instanceMethod ({ cls := "WeightedForest", name := "removalRound", desc := "(I)I" } : Jvm.MethodName)) ∈ TB := TB_in 508 (by decide +kernel) (by decide +kernel)
theorem tb_509 : (Jvm.Cond.selects "WeightedForest" ({ cls := "WeightedForest", name := "removalRound", desc := "(I)I" } : Jvm.MethodName) ({ cls := "WeightedForest", name := "removalRound", desc := "(I)I" } : Jvm.MethodName)) ∈ TB := TB_in 509 (by decide +kernel) (by decide +kernel)
theorem tb_510 : (Jvm.Cond.code ({ cls := "WeightedForest", name := "removalRound", desc := "(I)I" } : Jvm.MethodName) prog_1_method_27_code (2 : Nat) (Option.some Jvm.ClassFile.FieldType.int)) ∈ TB := TB_in 510 (by decide +kernel) (by decide +kernel)
theorem tb_511 : (Jvm.Cond.methodLink "WeightedForest" (183 : Nat) ({ cls := "WeightedForest$Contraction", name := "roundOf", desc := "(I)I" } : Jvm.MethodName)) ∈ TB := TB_in 511 (by decide +kernel) (by decide +kernel)
theorem tb_512 : (Jvm.Cond.instanceMethod ({ cls := "WeightedForest$Contraction", name := "roundOf", desc := "(I)I" } : Jvm.MethodName)) ∈ TB := TB_in 512 (by decide +kernel) (by decide +kernel)
theorem tb_513 : (Jvm.Cond.selects "WeightedForest$Contraction" ({ cls := "WeightedForest$Contraction", name := "roundOf", desc := "(I)I" } : Jvm.MethodName) ({ cls := "WeightedForest$Contraction", name := "roundOf", desc := "(I)I" } : Jvm.MethodName)) ∈ TB := TB_in 513 (by decide +kernel) (by decide +kernel)
theorem tb_514 : (Jvm.Cond.code ({ cls := "WeightedForest$Contraction", name := "roundOf", desc := "(I)I" } : Jvm.MethodName) prog_2_method_4_code (2 : Nat) (Option.some Jvm.ClassFile.FieldType.int)) ∈ TB := TB_in 514 (by decide +kernel) (by decide +kernel)
theorem tb_515 : (Jvm.Cond.methodLink "WeightedForestLaw" (77 : Nat) ({ cls := "WeightedForest", name := "survivor", desc := "(I)I" } : Jvm.MethodName)) ∈ TB := TB_in 515 (by decide +kernel) (by decide +kernel)
theorem tb_516 : (Jvm.Cond.instanceMethod ({ cls := "WeightedForest", name := "survivor", desc := "(I)I" } : Jvm.MethodName)) ∈ TB := TB_in 516 (by decide +kernel) (by decide +kernel)
theorem tb_517 : (Jvm.Cond.selects "WeightedForest" ({ cls := "WeightedForest", name := "survivor", desc := "(I)I" } : Jvm.MethodName) ({ cls := "WeightedForest", name := "survivor", desc := "(I)I" } : Jvm.MethodName)) ∈ TB := TB_in 517 (by decide +kernel) (by decide +kernel)
theorem tb_518 : (Jvm.Cond.code ({ cls := "WeightedForest", name := "survivor", desc := "(I)I" } : Jvm.MethodName) prog_1_method_28_code (2 : Nat) (Option.some Jvm.ClassFile.FieldType.int)) ∈ TB := TB_in 518 (by decide +kernel) (by decide +kernel)
theorem tb_519 : (Jvm.Cond.methodLink "WeightedForest" (186 : Nat) ({ cls := "WeightedForest$Contraction", name := "lastVertex", desc := "()I" } : Jvm.MethodName)) ∈ TB := TB_in 519 (by decide +kernel) (by decide +kernel)
theorem tb_520 : (Jvm.Cond.instanceMethod ({ cls := "WeightedForest$Contraction", name := "lastVertex", desc := "()I" } : Jvm.MethodName)) ∈ TB := TB_in 520 (by decide +kernel) (by decide +kernel)
theorem tb_521 : (Jvm.Cond.selects "WeightedForest$Contraction" ({ cls := "WeightedForest$Contraction", name := "lastVertex", desc := "()I" } : Jvm.MethodName) ({ cls := "WeightedForest$Contraction", name := "lastVertex", desc := "()I" } : Jvm.MethodName)) ∈ TB := TB_in 521 (by decide +kernel) (by decide +kernel)
theorem tb_522 : (Jvm.Cond.code ({ cls := "WeightedForest$Contraction", name := "lastVertex", desc := "()I" } : Jvm.MethodName) prog_2_method_5_code (2 : Nat) (Option.some Jvm.ClassFile.FieldType.int)) ∈ TB := TB_in 522 (by decide +kernel) (by decide +kernel)
theorem tb_523 : (Jvm.Cond.methodLink "WeightedForestLaw" (80 : Nat) ({ cls := "WeightedForest", name := "balancedCut", desc := "(I)I" } : Jvm.MethodName)) ∈ TB := TB_in 523 (by decide +kernel) (by decide +kernel)
theorem tb_524 : (Jvm.Cond.instanceMethod ({ cls := "WeightedForest", name := "balancedCut", desc := "(I)I" } : Jvm.MethodName)) ∈ TB := TB_in 524 (by decide +kernel) (by decide +kernel)
theorem tb_525 : (Jvm.Cond.selects "WeightedForest" ({ cls := "WeightedForest", name := "balancedCut", desc := "(I)I" } : Jvm.MethodName) ({ cls := "WeightedForest", name := "balancedCut", desc := "(I)I" } : Jvm.MethodName)) ∈ TB := TB_in 525 (by decide +kernel) (by decide +kernel)
theorem tb_526 : (Jvm.Cond.code ({ cls := "WeightedForest", name := "balancedCut", desc := "(I)I" } : Jvm.MethodName) prog_1_method_29_code (2 : Nat) (Option.some Jvm.ClassFile.FieldType.int)) ∈ TB := TB_in 526 (by decide +kernel) (by decide +kernel)
theorem tb_527 : (Jvm.Cond.methodLink "WeightedForest" (189 : Nat) ({ cls := "WeightedForest$Survey", name := "evenestEdge", desc := "(I)I" } : Jvm.MethodName)) ∈ TB := TB_in 527 (by decide +kernel) (by decide +kernel)
theorem tb_528 : (Jvm.Cond.instanceMethod ({ cls := "WeightedForest$Survey", name := "evenestEdge", desc := "(I)I" } : Jvm.MethodName)) ∈ TB := TB_in 528 (by decide +kernel) (by decide +kernel)
theorem tb_529 : (Jvm.Cond.selects "WeightedForest$Survey" ({ cls := "WeightedForest$Survey", name := "evenestEdge", desc := "(I)I" } : Jvm.MethodName) ({ cls := "WeightedForest$Survey", name := "evenestEdge", desc := "(I)I" } : Jvm.MethodName)) ∈ TB := TB_in 529 (by decide +kernel) (by decide +kernel)
theorem tb_530 : (Jvm.Cond.code ({ cls := "WeightedForest$Survey", name := "evenestEdge", desc := "(I)I" } : Jvm.MethodName) prog_7_method_20_code (6 : Nat) (Option.some Jvm.ClassFile.FieldType.int)) ∈ TB := TB_in 530 (by decide +kernel) (by decide +kernel)
theorem tb_531 : (Jvm.Cond.methodLink "WeightedForest$Survey" (78 : Nat) ({ cls := "WeightedForest$Survey", name := "heavierPart", desc := "(II)I" } : Jvm.MethodName)) ∈ TB := TB_in 531 (by decide +kernel) (by decide +kernel)
theorem tb_533 : (Jvm.Cond.instanceMethod ({ cls := "WeightedForest$Survey", name := "heavierPart", desc := "(II)I" } : Jvm.MethodName)) ∈ TB := TB_in 533 (by decide +kernel) (by decide +kernel)
theorem tb_534 : (Jvm.Cond.code ({ cls := "WeightedForest$Survey", name := "heavierPart", desc := "(II)I" } : Jvm.MethodName) prog_7_method_21_code (6 : Nat) (Option.some Jvm.ClassFile.FieldType.int)) ∈ TB := TB_in 534 (by decide +kernel) (by decide +kernel)
theorem tb_535 : (Jvm.Cond.methodLink "WeightedForest$Survey" (81 : Nat) ({ cls := "java/lang/Math", name := "max", desc := "(II)I" } : Jvm.MethodName)) ∈ TB := TB_in 535 (by decide +kernel) (by decide +kernel)
end
section
theorem tb_536 : (Jvm.Cond.methodLink "WeightedForestLaw" (83 : Nat) ({ cls := "WeightedForest", name := "expectedReach", desc := "(II)J" } : Jvm.MethodName)) ∈ TB := TB_in 536 (by decide +kernel) (by decide +kernel)
theorem tb_537 : (Jvm.Cond.instanceMethod ({ cls := "WeightedForest", name := "expectedReach", desc := "(II)J" } : Jvm.MethodName)) ∈ TB := TB_in 537 (by decide +kernel) (by decide +kernel)
theorem tb_538 : (Jvm.Cond.selects "WeightedForest" ({ cls := "WeightedForest", name := "expectedReach", desc := "(II)J" } : Jvm.MethodName) ({ cls := "WeightedForest", name := "expectedReach", desc := "(II)J" } : Jvm.MethodName)) ∈ TB := TB_in 538 (by decide +kernel) (by decide +kernel)
theorem tb_539 : (Jvm.Cond.code ({ cls := "WeightedForest", name := "expectedReach", desc := "(II)J" } : Jvm.MethodName) prog_1_method_30_code (3 : Nat) (Option.some Jvm.ClassFile.FieldType.long)) ∈ TB := TB_in 539 (by decide +kernel) (by decide +kernel)
theorem tb_540 : (Jvm.Cond.constantLong "WeightedForest" (192 : Nat) (-1 : Int64)) ∈ TB := TB_in 540 (by decide +kernel) (by decide +kernel)
theorem tb_541 : (Jvm.Cond.constantLong "WeightedForest" (194 : Nat) (-2 : Int64)) ∈ TB := TB_in 541 (by decide +kernel) (by decide +kernel)
theorem tb_542 : (Jvm.Cond.methodLink "WeightedForest" (196 : Nat) ({ cls := "WeightedForest$Survey", name := "reachOf", desc := "(II)J" } : Jvm.MethodName)) ∈ TB := TB_in 542 (by decide +kernel) (by decide +kernel)
theorem tb_543 : (Jvm.Cond.instanceMethod ({ cls := "WeightedForest$Survey", name := "reachOf", desc := "(II)J" } : Jvm.MethodName)) ∈ TB := TB_in 543 (by decide +kernel) (by decide +kernel)
theorem tb_544 : (Jvm.Cond.selects "WeightedForest$Survey" ({ cls := "WeightedForest$Survey", name := "reachOf", desc := "(II)J" } : Jvm.MethodName) ({ cls := "WeightedForest$Survey", name := "reachOf", desc := "(II)J" } : Jvm.MethodName)) ∈ TB := TB_in 544 (by decide +kernel) (by decide +kernel)
theorem tb_545 : (Jvm.Cond.code ({ cls := "WeightedForest$Survey", name := "reachOf", desc := "(II)J" } : Jvm.MethodName) prog_7_method_22_code (6 : Nat) (Option.some Jvm.ClassFile.FieldType.long)) ∈ TB := TB_in 545 (by decide +kernel) (by decide +kernel)
theorem tb_546 : (Jvm.Cond.methodLink "WeightedForest$Survey" (84 : Nat) ({ cls := "WeightedForest$Survey", name := "chanceOfPath", desc := "(III)J" } : Jvm.MethodName)) ∈ TB := TB_in 546 (by decide +kernel) (by decide +kernel)
theorem tb_548 : (Jvm.Cond.instanceMethod ({ cls := "WeightedForest$Survey", name := "chanceOfPath", desc := "(III)J" } : Jvm.MethodName)) ∈ TB := TB_in 548 (by decide +kernel) (by decide +kernel)
theorem tb_549 : (Jvm.Cond.code ({ cls := "WeightedForest$Survey", name := "chanceOfPath", desc := "(III)J" } : Jvm.MethodName) prog_7_method_23_code (8 : Nat) (Option.some Jvm.ClassFile.FieldType.long)) ∈ TB := TB_in 549 (by decide +kernel) (by decide +kernel)
theorem tb_550 : (Jvm.Cond.constantLong "WeightedForest$Survey" (88 : Nat) (100000000000 : Int64)) ∈ TB := TB_in 550 (by decide +kernel) (by decide +kernel)
theorem tb_551 : (Jvm.Cond.constantLong "WeightedForest$Survey" (90 : Nat) (10 : Int64)) ∈ TB := TB_in 551 (by decide +kernel) (by decide +kernel)
theorem tb_552 : (Jvm.Cond.constantLong "WeightedForestLaw" (87 : Nat) (-1 : Int64)) ∈ TB := TB_in 552 (by decide +kernel) (by decide +kernel)
theorem tb_553 : (Jvm.Cond.constantLong "WeightedForestLaw" (89 : Nat) (-2 : Int64)) ∈ TB := TB_in 553 (by decide +kernel) (by decide +kernel)
theorem tb_554 : (Jvm.Cond.methodLink "WeightedForestLaw" (91 : Nat) ({ cls := "WeightedForest", name := "observe", desc := "(III)I" } : Jvm.MethodName)) ∈ TB := TB_in 554 (by decide +kernel) (by decide +kernel)
theorem tb_555 : (Jvm.Cond.instanceMethod ({ cls := "WeightedForest", name := "observe", desc := "(III)I" } : Jvm.MethodName)) ∈ TB := TB_in 555 (by decide +kernel) (by decide +kernel)
theorem tb_556 : (Jvm.Cond.selects "WeightedForest" ({ cls := "WeightedForest", name := "observe", desc := "(III)I" } : Jvm.MethodName) ({ cls := "WeightedForest", name := "observe", desc := "(III)I" } : Jvm.MethodName)) ∈ TB := TB_in 556 (by decide +kernel) (by decide +kernel)
theorem tb_557 : (Jvm.Cond.code ({ cls := "WeightedForest", name := "observe", desc := "(III)I" } : Jvm.MethodName) prog_1_method_31_code (4 : Nat) (Option.some Jvm.ClassFile.FieldType.int)) ∈ TB := TB_in 557 (by decide +kernel) (by decide +kernel)
theorem tb_558 : (Jvm.Cond.methodLink "WeightedForest" (200 : Nat) ({ cls := "WeightedForest$Observations", name := "store", desc := "(III)I" } : Jvm.MethodName)) ∈ TB := TB_in 558 (by decide +kernel) (by decide +kernel)
theorem tb_559 : (Jvm.Cond.instanceMethod ({ cls := "WeightedForest$Observations", name := "store", desc := "(III)I" } : Jvm.MethodName)) ∈ TB := TB_in 559 (by decide +kernel) (by decide +kernel)
theorem tb_560 : (Jvm.Cond.selects "WeightedForest$Observations" ({ cls := "WeightedForest$Observations", name := "store", desc := "(III)I" } : Jvm.MethodName) ({ cls := "WeightedForest$Observations", name := "store", desc := "(III)I" } : Jvm.MethodName)) ∈ TB := TB_in 560 (by decide +kernel) (by decide +kernel)
theorem tb_561 : (Jvm.Cond.code ({ cls := "WeightedForest$Observations", name := "store", desc := "(III)I" } : Jvm.MethodName) prog_5_method_2_code (4 : Nat) (Option.some Jvm.ClassFile.FieldType.int)) ∈ TB := TB_in 561 (by decide +kernel) (by decide +kernel)
theorem tb_562 : (Jvm.Cond.methodLink "WeightedForest$Observations" (28 : Nat) ({ cls := "java/lang/Math", name := "min", desc := "(II)I" } : Jvm.MethodName)) ∈ TB := TB_in 562 (by decide +kernel) (by decide +kernel)
theorem tb_563 : (Jvm.Cond.methodLink "WeightedForestLaw" (94 : Nat) ({ cls := "WeightedForest", name := "possibleWeights", desc := "(II)I" } : Jvm.MethodName)) ∈ TB := TB_in 563 (by decide +kernel) (by decide +kernel)
theorem tb_564 : (Jvm.Cond.instanceMethod ({ cls := "WeightedForest", name := "possibleWeights", desc := "(II)I" } : Jvm.MethodName)) ∈ TB := TB_in 564 (by decide +kernel) (by decide +kernel)
theorem tb_565 : (Jvm.Cond.selects "WeightedForest" ({ cls := "WeightedForest", name := "possibleWeights", desc := "(II)I" } : Jvm.MethodName) ({ cls := "WeightedForest", name := "possibleWeights", desc := "(II)I" } : Jvm.MethodName)) ∈ TB := TB_in 565 (by decide +kernel) (by decide +kernel)
theorem tb_566 : (Jvm.Cond.code ({ cls := "WeightedForest", name := "possibleWeights", desc := "(II)I" } : Jvm.MethodName) prog_1_method_32_code (3 : Nat) (Option.some Jvm.ClassFile.FieldType.int)) ∈ TB := TB_in 566 (by decide +kernel) (by decide +kernel)
theorem tb_567 : (Jvm.Cond.methodLink "WeightedForest" (203 : Nat) ({ cls := "WeightedForest$Observations", name := "countWeights", desc := "(LWeightedForest$Survey;II)I" } : Jvm.MethodName)) ∈ TB := TB_in 567 (by decide +kernel) (by decide +kernel)
theorem tb_568 : (Jvm.Cond.instanceMethod ({ cls := "WeightedForest$Observations", name := "countWeights", desc := "(LWeightedForest$Survey;II)I" } : Jvm.MethodName)) ∈ TB := TB_in 568 (by decide +kernel) (by decide +kernel)
theorem tb_569 : (Jvm.Cond.selects "WeightedForest$Observations" ({ cls := "WeightedForest$Observations", name := "countWeights", desc := "(LWeightedForest$Survey;II)I" } : Jvm.MethodName) ({ cls := "WeightedForest$Observations", name := "countWeights", desc := "(LWeightedForest$Survey;II)I" } : Jvm.MethodName)) ∈ TB := TB_in 569 (by decide +kernel) (by decide +kernel)
theorem tb_570 : (Jvm.Cond.code ({ cls := "WeightedForest$Observations", name := "countWeights", desc := "(LWeightedForest$Survey;II)I" } : Jvm.MethodName) prog_5_method_3_code (9 : Nat) (Option.some Jvm.ClassFile.FieldType.int)) ∈ TB := TB_in 570 (by decide +kernel) (by decide +kernel)
theorem tb_571 : (Jvm.Cond.methodLink "WeightedForest$Observations" (34 : Nat) ({ cls := "WeightedForest$Survey", name := "between", desc := "(II)I" } : Jvm.MethodName)) ∈ TB := TB_in 571 (by decide +kernel) (by decide +kernel)
theorem tb_572 : (Jvm.Cond.methodLink "WeightedForest$Observations" (39 : Nat) ({ cls := "WeightedForest$Survey", name := "joined", desc := "(II)Z" } : Jvm.MethodName)) ∈ TB := TB_in 572 (by decide +kernel) (by decide +kernel)
theorem tb_573 : (Jvm.Cond.methodLink "WeightedForest$Observations" (43 : Nat) ({ cls := "WeightedForest$Survey", name := "goesOver", desc := "(IIII)Z" } : Jvm.MethodName)) ∈ TB := TB_in 573 (by decide +kernel) (by decide +kernel)
theorem tb_574 : (Jvm.Cond.instanceMethod ({ cls := "WeightedForest$Survey", name := "goesOver", desc := "(IIII)Z" } : Jvm.MethodName)) ∈ TB := TB_in 574 (by decide +kernel) (by decide +kernel)
theorem tb_575 : (Jvm.Cond.selects "WeightedForest$Survey" ({ cls := "WeightedForest$Survey", name := "goesOver", desc := "(IIII)Z" } : Jvm.MethodName) ({ cls := "WeightedForest$Survey", name := "goesOver", desc := "(IIII)Z" } : Jvm.MethodName)) ∈ TB := TB_in 575 (by decide +kernel) (by decide +kernel)
theorem tb_576 : (Jvm.Cond.code ({ cls := "WeightedForest$Survey", name := "goesOver", desc := "(IIII)Z" } : Jvm.MethodName) prog_7_method_19_code (8 : Nat) (Option.some Jvm.ClassFile.FieldType.boolean)) ∈ TB := TB_in 576 (by decide +kernel) (by decide +kernel)
theorem tb_577 : (Jvm.Cond.methodLink "WeightedForest$Observations" (47 : Nat) ({ cls := "WeightedForest$Survey", name := "edgeOf", desc := "(II)I" } : Jvm.MethodName)) ∈ TB := TB_in 577 (by decide +kernel) (by decide +kernel)
theorem tb_578 : (Jvm.Cond.instanceMethod ({ cls := "WeightedForest$Survey", name := "edgeOf", desc := "(II)I" } : Jvm.MethodName)) ∈ TB := TB_in 578 (by decide +kernel) (by decide +kernel)
theorem tb_579 : (Jvm.Cond.selects "WeightedForest$Survey" ({ cls := "WeightedForest$Survey", name := "edgeOf", desc := "(II)I" } : Jvm.MethodName) ({ cls := "WeightedForest$Survey", name := "edgeOf", desc := "(II)I" } : Jvm.MethodName)) ∈ TB := TB_in 579 (by decide +kernel) (by decide +kernel)
theorem tb_580 : (Jvm.Cond.code ({ cls := "WeightedForest$Survey", name := "edgeOf", desc := "(II)I" } : Jvm.MethodName) prog_7_method_6_code (3 : Nat) (Option.some Jvm.ClassFile.FieldType.int)) ∈ TB := TB_in 580 (by decide +kernel) (by decide +kernel)
theorem tb_581 : (Jvm.Cond.methodLink "WeightedForest$Observations" (50 : Nat) ({ cls := "java/lang/Math", name := "max", desc := "(II)I" } : Jvm.MethodName)) ∈ TB := TB_in 581 (by decide +kernel) (by decide +kernel)
theorem tb_582 : (Jvm.Cond.methodLink "WeightedForestLaw" (97 : Nat) ({ cls := "WeightedForest", name := "runScript", desc := "(IJ)I" } : Jvm.MethodName)) ∈ TB := TB_in 582 (by decide +kernel) (by decide +kernel)
theorem tb_583 : (Jvm.Cond.instanceMethod ({ cls := "WeightedForest", name := "runScript", desc := "(IJ)I" } : Jvm.MethodName)) ∈ TB := TB_in 583 (by decide +kernel) (by decide +kernel)
theorem tb_584 : (Jvm.Cond.selects "WeightedForest" ({ cls := "WeightedForest", name := "runScript", desc := "(IJ)I" } : Jvm.MethodName) ({ cls := "WeightedForest", name := "runScript", desc := "(IJ)I" } : Jvm.MethodName)) ∈ TB := TB_in 584 (by decide +kernel) (by decide +kernel)
theorem tb_585 : (Jvm.Cond.code ({ cls := "WeightedForest", name := "runScript", desc := "(IJ)I" } : Jvm.MethodName) prog_1_method_33_code (7 : Nat) (Option.some Jvm.ClassFile.FieldType.int)) ∈ TB := TB_in 585 (by decide +kernel) (by decide +kernel)
theorem tb_586 : (Jvm.Cond.constantLong "WeightedForest" (207 : Nat) (100000 : Int64)) ∈ TB := TB_in 586 (by decide +kernel) (by decide +kernel)
theorem tb_587 : (Jvm.Cond.methodLink "WeightedForest" (82 : Nat) ({ cls := "WeightedForest$Forest", name := "become", desc := "(LWeightedForest$Forest;)V" } : Jvm.MethodName)) ∈ TB := TB_in 587 (by decide +kernel) (by decide +kernel)
theorem tb_588 : (Jvm.Cond.methodLink "WeightedForest" (209 : Nat) ({ cls := "WeightedForest", name := "obeys", desc := "(I)Z" } : Jvm.MethodName)) ∈ TB := TB_in 588 (by decide +kernel) (by decide +kernel)
theorem tb_590 : (Jvm.Cond.instanceMethod ({ cls := "WeightedForest", name := "obeys", desc := "(I)Z" } : Jvm.MethodName)) ∈ TB := TB_in 590 (by decide +kernel) (by decide +kernel)
theorem tb_591 : (Jvm.Cond.code ({ cls := "WeightedForest", name := "obeys", desc := "(I)Z" } : Jvm.MethodName) prog_1_method_34_code (4 : Nat) (Option.some Jvm.ClassFile.FieldType.boolean)) ∈ TB := TB_in 591 (by decide +kernel) (by decide +kernel)
theorem tb_592 : (Jvm.Cond.methodLink "WeightedForest" (212 : Nat) ({ cls := "WeightedForest", name := "triesLink", desc := "(II)Z" } : Jvm.MethodName)) ∈ TB := TB_in 592 (by decide +kernel) (by decide +kernel)
theorem tb_594 : (Jvm.Cond.instanceMethod ({ cls := "WeightedForest", name := "triesLink", desc := "(II)Z" } : Jvm.MethodName)) ∈ TB := TB_in 594 (by decide +kernel) (by decide +kernel)
theorem tb_595 : (Jvm.Cond.code ({ cls := "WeightedForest", name := "triesLink", desc := "(II)Z" } : Jvm.MethodName) prog_1_method_35_code (3 : Nat) (Option.some Jvm.ClassFile.FieldType.boolean)) ∈ TB := TB_in 595 (by decide +kernel) (by decide +kernel)
theorem tb_596 : (Jvm.Cond.methodLink "WeightedForest" (215 : Nat) ({ cls := "WeightedForest", name := "triesCut", desc := "(II)Z" } : Jvm.MethodName)) ∈ TB := TB_in 596 (by decide +kernel) (by decide +kernel)
theorem tb_598 : (Jvm.Cond.instanceMethod ({ cls := "WeightedForest", name := "triesCut", desc := "(II)Z" } : Jvm.MethodName)) ∈ TB := TB_in 598 (by decide +kernel) (by decide +kernel)
theorem tb_599 : (Jvm.Cond.code ({ cls := "WeightedForest", name := "triesCut", desc := "(II)Z" } : Jvm.MethodName) prog_1_method_36_code (3 : Nat) (Option.some Jvm.ClassFile.FieldType.boolean)) ∈ TB := TB_in 599 (by decide +kernel) (by decide +kernel)
theorem tb_600 : (Jvm.Cond.methodLink "WeightedForest" (218 : Nat) ({ cls := "WeightedForest", name := "joinedInTrial", desc := "(II)Z" } : Jvm.MethodName)) ∈ TB := TB_in 600 (by decide +kernel) (by decide +kernel)
theorem tb_602 : (Jvm.Cond.instanceMethod ({ cls := "WeightedForest", name := "joinedInTrial", desc := "(II)Z" } : Jvm.MethodName)) ∈ TB := TB_in 602 (by decide +kernel) (by decide +kernel)
theorem tb_603 : (Jvm.Cond.code ({ cls := "WeightedForest", name := "joinedInTrial", desc := "(II)Z" } : Jvm.MethodName) prog_1_method_37_code (3 : Nat) (Option.some Jvm.ClassFile.FieldType.boolean)) ∈ TB := TB_in 603 (by decide +kernel) (by decide +kernel)
theorem tb_604 : (Jvm.Cond.methodLink "WeightedForest" (221 : Nat) ({ cls := "WeightedForest", name := "leavesEarlier", desc := "(II)Z" } : Jvm.MethodName)) ∈ TB := TB_in 604 (by decide +kernel) (by decide +kernel)
theorem tb_606 : (Jvm.Cond.instanceMethod ({ cls := "WeightedForest", name := "leavesEarlier", desc := "(II)Z" } : Jvm.MethodName)) ∈ TB := TB_in 606 (by decide +kernel) (by decide +kernel)
theorem tb_607 : (Jvm.Cond.code ({ cls := "WeightedForest", name := "leavesEarlier", desc := "(II)Z" } : Jvm.MethodName) prog_1_method_38_code (5 : Nat) (Option.some Jvm.ClassFile.FieldType.boolean)) ∈ TB := TB_in 607 (by decide +kernel) (by decide +kernel)
theorem tb_608 : (Jvm.Cond.constantLong "WeightedForestLaw" (101 : Nat) (100000 : Int64)) ∈ TB := TB_in 608 (by decide +kernel) (by decide +kernel)
theorem tb_609 : (Jvm.Cond.methodLink "WeightedForestLaw" (103 : Nat) ({ cls := "WeightedForest", name := "randomChanges", desc := "(JI)I" } : Jvm.MethodName)) ∈ TB := TB_in 609 (by decide +kernel) (by decide +kernel)
theorem tb_610 : (Jvm.Cond.instanceMethod ({ cls := "WeightedForest", name := "randomChanges", desc := "(JI)I" } : Jvm.MethodName)) ∈ TB := TB_in 610 (by decide +kernel) (by decide +kernel)
theorem tb_611 : (Jvm.Cond.selects "WeightedForest" ({ cls := "WeightedForest", name := "randomChanges", desc := "(JI)I" } : Jvm.MethodName) ({ cls := "WeightedForest", name := "randomChanges", desc := "(JI)I" } : Jvm.MethodName)) ∈ TB := TB_in 611 (by decide +kernel) (by decide +kernel)
theorem tb_612 : (Jvm.Cond.code ({ cls := "WeightedForest", name := "randomChanges", desc := "(JI)I" } : Jvm.MethodName) prog_1_method_39_code (8 : Nat) (Option.some Jvm.ClassFile.FieldType.int)) ∈ TB := TB_in 612 (by decide +kernel) (by decide +kernel)
theorem tb_613 : (Jvm.Cond.constantLong "WeightedForest" (224 : Nat) (6364136223846793005 : Int64)) ∈ TB := TB_in 613 (by decide +kernel) (by decide +kernel)
theorem tb_614 : (Jvm.Cond.constantLong "WeightedForest" (226 : Nat) (1442695040888963407 : Int64)) ∈ TB := TB_in 614 (by decide +kernel) (by decide +kernel)
theorem tb_615 : (Jvm.Cond.methodLink "WeightedForest" (228 : Nat) ({ cls := "WeightedForest", name := "changeTrial", desc := "(I)V" } : Jvm.MethodName)) ∈ TB := TB_in 615 (by decide +kernel) (by decide +kernel)
theorem tb_617 : (Jvm.Cond.instanceMethod ({ cls := "WeightedForest", name := "changeTrial", desc := "(I)V" } : Jvm.MethodName)) ∈ TB := TB_in 617 (by decide +kernel) (by decide +kernel)
theorem tb_618 : (Jvm.Cond.code ({ cls := "WeightedForest", name := "changeTrial", desc := "(I)V" } : Jvm.MethodName) prog_1_method_40_code (6 : Nat) (Option.none : Option Jvm.ClassFile.FieldType)) ∈ TB := TB_in 618 (by decide +kernel) (by decide +kernel)
theorem tb_619 : (Jvm.Cond.methodLink "WeightedForest" (232 : Nat) ({ cls := "WeightedForest$Forest", name := "vertices", desc := "()I" } : Jvm.MethodName)) ∈ TB := TB_in 619 (by decide +kernel) (by decide +kernel)
theorem tb_620 : (Jvm.Cond.methodLink "WeightedForestLaw" (107 : Nat) ({ cls := "WeightedForest", name := "save", desc := "(I)I" } : Jvm.MethodName)) ∈ TB := TB_in 620 (by decide +kernel) (by decide +kernel)
theorem tb_621 : (Jvm.Cond.instanceMethod ({ cls := "WeightedForest", name := "save", desc := "(I)I" } : Jvm.MethodName)) ∈ TB := TB_in 621 (by decide +kernel) (by decide +kernel)
theorem tb_622 : (Jvm.Cond.selects "WeightedForest" ({ cls := "WeightedForest", name := "save", desc := "(I)I" } : Jvm.MethodName) ({ cls := "WeightedForest", name := "save", desc := "(I)I" } : Jvm.MethodName)) ∈ TB := TB_in 622 (by decide +kernel) (by decide +kernel)
theorem tb_623 : (Jvm.Cond.code ({ cls := "WeightedForest", name := "save", desc := "(I)I" } : Jvm.MethodName) prog_1_method_41_code (2 : Nat) (Option.some Jvm.ClassFile.FieldType.int)) ∈ TB := TB_in 623 (by decide +kernel) (by decide +kernel)
theorem tb_624 : (Jvm.Cond.methodLink "WeightedForestLaw" (110 : Nat) ({ cls := "WeightedForest", name := "restore", desc := "(I)I" } : Jvm.MethodName)) ∈ TB := TB_in 624 (by decide +kernel) (by decide +kernel)
theorem tb_625 : (Jvm.Cond.instanceMethod ({ cls := "WeightedForest", name := "restore", desc := "(I)I" } : Jvm.MethodName)) ∈ TB := TB_in 625 (by decide +kernel) (by decide +kernel)
theorem tb_626 : (Jvm.Cond.selects "WeightedForest" ({ cls := "WeightedForest", name := "restore", desc := "(I)I" } : Jvm.MethodName) ({ cls := "WeightedForest", name := "restore", desc := "(I)I" } : Jvm.MethodName)) ∈ TB := TB_in 626 (by decide +kernel) (by decide +kernel)
theorem tb_627 : (Jvm.Cond.code ({ cls := "WeightedForest", name := "restore", desc := "(I)I" } : Jvm.MethodName) prog_1_method_42_code (2 : Nat) (Option.some Jvm.ClassFile.FieldType.int)) ∈ TB := TB_in 627 (by decide +kernel) (by decide +kernel)
theorem tb_628 : (Jvm.Cond.methodLink "WeightedForest" (85 : Nat) ({ cls := "WeightedForest$History", name := "forget", desc := "()V" } : Jvm.MethodName)) ∈ TB := TB_in 628 (by decide +kernel) (by decide +kernel)
theorem tb_629 : (Jvm.Cond.instanceMethod ({ cls := "WeightedForest$History", name := "forget", desc := "()V" } : Jvm.MethodName)) ∈ TB := TB_in 629 (by decide +kernel) (by decide +kernel)
theorem tb_630 : (Jvm.Cond.selects "WeightedForest$History" ({ cls := "WeightedForest$History", name := "forget", desc := "()V" } : Jvm.MethodName) ({ cls := "WeightedForest$History", name := "forget", desc := "()V" } : Jvm.MethodName)) ∈ TB := TB_in 630 (by decide +kernel) (by decide +kernel)
theorem tb_631 : (Jvm.Cond.code ({ cls := "WeightedForest$History", name := "forget", desc := "()V" } : Jvm.MethodName) prog_4_method_5_code (1 : Nat) (Option.none : Option Jvm.ClassFile.FieldType)) ∈ TB := TB_in 631 (by decide +kernel) (by decide +kernel)
theorem tb_632 : (Jvm.Cond.methodLink "WeightedForestLaw" (175 : Nat) ({ cls := "WeightedForestLaw", name := "act", desc := "(LWeightedForest;II)I" } : Jvm.MethodName)) ∈ TB := TB_in 632 (by decide +kernel) (by decide +kernel)
theorem tb_633 : (Jvm.Cond.static ({ cls := "WeightedForestLaw", name := "act", desc := "(LWeightedForest;II)I" } : Jvm.MethodName)) ∈ TB := TB_in 633 (by decide +kernel) (by decide +kernel)
theorem tb_635 : (Jvm.Cond.methodLink "WeightedForestLaw" (133 : Nat) ({ cls := "WeightedForestLaw", name := "load", desc := "(LWeightedForest;II)I" } : Jvm.MethodName)) ∈ TB := TB_in 635 (by decide +kernel) (by decide +kernel)
theorem tb_636 : (Jvm.Cond.static ({ cls := "WeightedForestLaw", name := "load", desc := "(LWeightedForest;II)I" } : Jvm.MethodName)) ∈ TB := TB_in 636 (by decide +kernel) (by decide +kernel)
theorem tb_638 : (Jvm.Cond.methodLink "WeightedForestLaw" (113 : Nat) ({ cls := "WeightedForest", name := "clearText", desc := "()I" } : Jvm.MethodName)) ∈ TB := TB_in 638 (by decide +kernel) (by decide +kernel)
theorem tb_639 : (Jvm.Cond.instanceMethod ({ cls := "WeightedForest", name := "clearText", desc := "()I" } : Jvm.MethodName)) ∈ TB := TB_in 639 (by decide +kernel) (by decide +kernel)
theorem tb_640 : (Jvm.Cond.selects "WeightedForest" ({ cls := "WeightedForest", name := "clearText", desc := "()I" } : Jvm.MethodName) ({ cls := "WeightedForest", name := "clearText", desc := "()I" } : Jvm.MethodName)) ∈ TB := TB_in 640 (by decide +kernel) (by decide +kernel)
theorem tb_641 : (Jvm.Cond.code ({ cls := "WeightedForest", name := "clearText", desc := "()I" } : Jvm.MethodName) prog_1_method_3_code (2 : Nat) (Option.some Jvm.ClassFile.FieldType.int)) ∈ TB := TB_in 641 (by decide +kernel) (by decide +kernel)
theorem tb_642 : (Jvm.Cond.methodLink "WeightedForest" (75 : Nat) ({ cls := "WeightedForest$SetupText", name := "empty", desc := "()V" } : Jvm.MethodName)) ∈ TB := TB_in 642 (by decide +kernel) (by decide +kernel)
theorem tb_643 : (Jvm.Cond.instanceMethod ({ cls := "WeightedForest$SetupText", name := "empty", desc := "()V" } : Jvm.MethodName)) ∈ TB := TB_in 643 (by decide +kernel) (by decide +kernel)
theorem tb_644 : (Jvm.Cond.selects "WeightedForest$SetupText" ({ cls := "WeightedForest$SetupText", name := "empty", desc := "()V" } : Jvm.MethodName) ({ cls := "WeightedForest$SetupText", name := "empty", desc := "()V" } : Jvm.MethodName)) ∈ TB := TB_in 644 (by decide +kernel) (by decide +kernel)
theorem tb_645 : (Jvm.Cond.code ({ cls := "WeightedForest$SetupText", name := "empty", desc := "()V" } : Jvm.MethodName) prog_6_method_4_code (1 : Nat) (Option.none : Option Jvm.ClassFile.FieldType)) ∈ TB := TB_in 645 (by decide +kernel) (by decide +kernel)
theorem tb_646 : (Jvm.Cond.methodLink "WeightedForestLaw" (117 : Nat) ({ cls := "WeightedForestLaw", name := "two", desc := "(LWeightedForest;I)I" } : Jvm.MethodName)) ∈ TB := TB_in 646 (by decide +kernel) (by decide +kernel)
theorem tb_647 : (Jvm.Cond.static ({ cls := "WeightedForestLaw", name := "two", desc := "(LWeightedForest;I)I" } : Jvm.MethodName)) ∈ TB := TB_in 647 (by decide +kernel) (by decide +kernel)
theorem tb_649 : (Jvm.Cond.constant "WeightedForestLaw" (121 : Nat) (104729 : Int32)) ∈ TB := TB_in 649 (by decide +kernel) (by decide +kernel)
theorem tb_651 : (Jvm.Cond.methodLink "WeightedForestLaw" (124 : Nat) ({ cls := "java/lang/String", name := "charAt", desc := "(I)C" } : Jvm.MethodName)) ∈ TB := TB_in 651 (by decide +kernel) (by decide +kernel)
theorem tb_652 : (Jvm.Cond.instanceMethod ({ cls := "java/lang/String", name := "charAt", desc := "(I)C" } : Jvm.MethodName)) ∈ TB := TB_in 652 (by decide +kernel) (by decide +kernel)
theorem tb_653 : (Jvm.Cond.selects "java/lang/String" ({ cls := "java/lang/String", name := "charAt", desc := "(I)C" } : Jvm.MethodName) ({ cls := "java/lang/String", name := "charAt", desc := "(I)C" } : Jvm.MethodName)) ∈ TB := TB_in 653 (by decide +kernel) (by decide +kernel)
theorem tb_654 : (Jvm.Cond.code ({ cls := "java/lang/String", name := "charAt", desc := "(I)C" } : Jvm.MethodName) prog_11_method_56_code (2 : Nat) (Option.some Jvm.ClassFile.FieldType.char)) ∈ TB := TB_in 654 (by decide +kernel) (by decide +kernel)
theorem tb_655 : (Jvm.Cond.methodLink "java/lang/String" (492 : Nat) ({ cls := "java/lang/String", name := "isLatin1", desc := "()Z" } : Jvm.MethodName)) ∈ TB := TB_in 655 (by decide +kernel) (by decide +kernel)
theorem tb_656 : (Jvm.Cond.instanceMethod ({ cls := "java/lang/String", name := "isLatin1", desc := "()Z" } : Jvm.MethodName)) ∈ TB := TB_in 656 (by decide +kernel) (by decide +kernel)
theorem tb_657 : (Jvm.Cond.selects "java/lang/String" ({ cls := "java/lang/String", name := "isLatin1", desc := "()Z" } : Jvm.MethodName) ({ cls := "java/lang/String", name := "isLatin1", desc := "()Z" } : Jvm.MethodName)) ∈ TB := TB_in 657 (by decide +kernel) (by decide +kernel)
theorem tb_658 : (Jvm.Cond.code ({ cls := "java/lang/String", name := "isLatin1", desc := "()Z" } : Jvm.MethodName) prog_11_method_154_code (1 : Nat) (Option.some Jvm.ClassFile.FieldType.boolean)) ∈ TB := TB_in 658 (by decide +kernel) (by decide +kernel)
theorem tb_659 : (Jvm.Cond.fieldLink "java/lang/String" (38 : Nat) "java/lang/String" "COMPACT_STRINGS" "Z") ∈ TB := TB_in 659 (by decide +kernel) (by decide +kernel)
theorem tb_661 : (Jvm.Cond.methodLink "java/lang/String" (495 : Nat) ({ cls := "java/lang/StringLatin1", name := "charAt", desc := "([BI)C" } : Jvm.MethodName)) ∈ TB := TB_in 661 (by decide +kernel) (by decide +kernel)
theorem tb_662 : (Jvm.Cond.static ({ cls := "java/lang/StringLatin1", name := "charAt", desc := "([BI)C" } : Jvm.MethodName)) ∈ TB := TB_in 662 (by decide +kernel) (by decide +kernel)
theorem tb_663 : (Jvm.Cond.code ({ cls := "java/lang/StringLatin1", name := "charAt", desc := "([BI)C" } : Jvm.MethodName) prog_12_method_2_code (2 : Nat) (Option.some Jvm.ClassFile.FieldType.char)) ∈ TB := TB_in 663 (by decide +kernel) (by decide +kernel)
theorem tb_664 : (Jvm.Cond.methodLink "java/lang/StringLatin1" (9 : Nat) ({ cls := "java/lang/String", name := "checkIndex", desc := "(II)V" } : Jvm.MethodName)) ∈ TB := TB_in 664 (by decide +kernel) (by decide +kernel)
theorem tb_665 : (Jvm.Cond.static ({ cls := "java/lang/String", name := "checkIndex", desc := "(II)V" } : Jvm.MethodName)) ∈ TB := TB_in 665 (by decide +kernel) (by decide +kernel)
theorem tb_666 : (Jvm.Cond.code ({ cls := "java/lang/String", name := "checkIndex", desc := "(II)V" } : Jvm.MethodName) prog_11_method_155_code (2 : Nat) (Option.none : Option Jvm.ClassFile.FieldType)) ∈ TB := TB_in 666 (by decide +kernel) (by decide +kernel)
theorem tb_667 : (Jvm.Cond.fieldLink "java/lang/String" (1053 : Nat) "jdk/internal/util/Preconditions" "SIOOBE_FORMATTER" "Ljava/util/function/BiFunction;") ∈ TB := TB_in 667 (by decide +kernel) (by decide +kernel)
theorem tb_669 : (Jvm.Cond.methodLink "java/lang/String" (1059 : Nat) ({ cls := "jdk/internal/util/Preconditions", name := "checkIndex", desc := "(IILjava/util/function/BiFunction;)I" } : Jvm.MethodName)) ∈ TB := TB_in 669 (by decide +kernel) (by decide +kernel)
theorem tb_670 : (Jvm.Cond.static ({ cls := "jdk/internal/util/Preconditions", name := "checkIndex", desc := "(IILjava/util/function/BiFunction;)I" } : Jvm.MethodName)) ∈ TB := TB_in 670 (by decide +kernel) (by decide +kernel)
theorem tb_671 : (Jvm.Cond.code ({ cls := "jdk/internal/util/Preconditions", name := "checkIndex", desc := "(IILjava/util/function/BiFunction;)I" } : Jvm.MethodName) prog_16_method_11_code (3 : Nat) (Option.some Jvm.ClassFile.FieldType.int)) ∈ TB := TB_in 671 (by decide +kernel) (by decide +kernel)
theorem tb_672 : (Jvm.Cond.methodLink "java/lang/String" (498 : Nat) ({ cls := "java/lang/StringUTF16", name := "charAt", desc := "([BI)C" } : Jvm.MethodName)) ∈ TB := TB_in 672 (by decide +kernel) (by decide +kernel)
theorem tb_673 : (Jvm.Cond.static ({ cls := "java/lang/StringUTF16", name := "charAt", desc := "([BI)C" } : Jvm.MethodName)) ∈ TB := TB_in 673 (by decide +kernel) (by decide +kernel)
theorem tb_674 : (Jvm.Cond.code ({ cls := "java/lang/StringUTF16", name := "charAt", desc := "([BI)C" } : Jvm.MethodName) prog_13_method_83_code (2 : Nat) (Option.some Jvm.ClassFile.FieldType.char)) ∈ TB := TB_in 674 (by decide +kernel) (by decide +kernel)
theorem tb_675 : (Jvm.Cond.methodLink "java/lang/StringUTF16" (67 : Nat) ({ cls := "java/lang/StringUTF16", name := "checkIndex", desc := "(I[B)V" } : Jvm.MethodName)) ∈ TB := TB_in 675 (by decide +kernel) (by decide +kernel)
theorem tb_676 : (Jvm.Cond.static ({ cls := "java/lang/StringUTF16", name := "checkIndex", desc := "(I[B)V" } : Jvm.MethodName)) ∈ TB := TB_in 676 (by decide +kernel) (by decide +kernel)
theorem tb_677 : (Jvm.Cond.code ({ cls := "java/lang/StringUTF16", name := "checkIndex", desc := "(I[B)V" } : Jvm.MethodName) prog_13_method_91_code (2 : Nat) (Option.none : Option Jvm.ClassFile.FieldType)) ∈ TB := TB_in 677 (by decide +kernel) (by decide +kernel)
theorem tb_678 : (Jvm.Cond.methodLink "java/lang/StringUTF16" (48 : Nat) ({ cls := "java/lang/StringUTF16", name := "length", desc := "([B)I" } : Jvm.MethodName)) ∈ TB := TB_in 678 (by decide +kernel) (by decide +kernel)
theorem tb_679 : (Jvm.Cond.static ({ cls := "java/lang/StringUTF16", name := "length", desc := "([B)I" } : Jvm.MethodName)) ∈ TB := TB_in 679 (by decide +kernel) (by decide +kernel)
theorem tb_680 : (Jvm.Cond.code ({ cls := "java/lang/StringUTF16", name := "length", desc := "([B)I" } : Jvm.MethodName) prog_13_method_6_code (1 : Nat) (Option.some Jvm.ClassFile.FieldType.int)) ∈ TB := TB_in 680 (by decide +kernel) (by decide +kernel)
theorem tb_681 : (Jvm.Cond.methodLink "java/lang/StringUTF16" (414 : Nat) ({ cls := "java/lang/String", name := "checkIndex", desc := "(II)V" } : Jvm.MethodName)) ∈ TB := TB_in 681 (by decide +kernel) (by decide +kernel)
theorem tb_682 : (Jvm.Cond.methodLink "java/lang/StringUTF16" (71 : Nat) ({ cls := "java/lang/StringUTF16", name := "getChar", desc := "([BI)C" } : Jvm.MethodName)) ∈ TB := TB_in 682 (by decide +kernel) (by decide +kernel)
theorem tb_683 : (Jvm.Cond.static ({ cls := "java/lang/StringUTF16", name := "getChar", desc := "([BI)C" } : Jvm.MethodName)) ∈ TB := TB_in 683 (by decide +kernel) (by decide +kernel)
theorem tb_684 : (Jvm.Cond.code ({ cls := "java/lang/StringUTF16", name := "getChar", desc := "([BI)C" } : Jvm.MethodName) prog_13_method_5_code (2 : Nat) (Option.some Jvm.ClassFile.FieldType.char)) ∈ TB := TB_in 684 (by decide +kernel) (by decide +kernel)
theorem tb_685 : (Jvm.Cond.fieldLink "java/lang/StringUTF16" (44 : Nat) "java/lang/StringUTF16" "$assertionsDisabled" "Z") ∈ TB := TB_in 685 (by decide +kernel) (by decide +kernel)
theorem tb_687 : (Jvm.Cond.fieldLink "java/lang/StringUTF16" (59 : Nat) "java/lang/StringUTF16" "HI_BYTE_SHIFT" "I") ∈ TB := TB_in 687 (by decide +kernel) (by decide +kernel)
theorem tb_689 : (Jvm.Cond.fieldLink "java/lang/StringUTF16" (63 : Nat) "java/lang/StringUTF16" "LO_BYTE_SHIFT" "I") ∈ TB := TB_in 689 (by decide +kernel) (by decide +kernel)
theorem tb_691 : (Jvm.Cond.methodLink "WeightedForestLaw" (130 : Nat) ({ cls := "WeightedForest", name := "load", desc := "()I" } : Jvm.MethodName)) ∈ TB := TB_in 691 (by decide +kernel) (by decide +kernel)
theorem tb_692 : (Jvm.Cond.instanceMethod ({ cls := "WeightedForest", name := "load", desc := "()I" } : Jvm.MethodName)) ∈ TB := TB_in 692 (by decide +kernel) (by decide +kernel)
theorem tb_693 : (Jvm.Cond.selects "WeightedForest" ({ cls := "WeightedForest", name := "load", desc := "()I" } : Jvm.MethodName) ({ cls := "WeightedForest", name := "load", desc := "()I" } : Jvm.MethodName)) ∈ TB := TB_in 693 (by decide +kernel) (by decide +kernel)
theorem tb_694 : (Jvm.Cond.code ({ cls := "WeightedForest", name := "load", desc := "()I" } : Jvm.MethodName) prog_1_method_5_code (1 : Nat) (Option.some Jvm.ClassFile.FieldType.int)) ∈ TB := TB_in 694 (by decide +kernel) (by decide +kernel)
theorem tb_695 : (Jvm.Cond.methodLink "WeightedForest" (78 : Nat) ({ cls := "WeightedForest$SetupText", name := "readInto", desc := "(LWeightedForest$Forest;)I" } : Jvm.MethodName)) ∈ TB := TB_in 695 (by decide +kernel) (by decide +kernel)
theorem tb_696 : (Jvm.Cond.instanceMethod ({ cls := "WeightedForest$SetupText", name := "readInto", desc := "(LWeightedForest$Forest;)I" } : Jvm.MethodName)) ∈ TB := TB_in 696 (by decide +kernel) (by decide +kernel)
theorem tb_697 : (Jvm.Cond.selects "WeightedForest$SetupText" ({ cls := "WeightedForest$SetupText", name := "readInto", desc := "(LWeightedForest$Forest;)I" } : Jvm.MethodName) ({ cls := "WeightedForest$SetupText", name := "readInto", desc := "(LWeightedForest$Forest;)I" } : Jvm.MethodName)) ∈ TB := TB_in 697 (by decide +kernel) (by decide +kernel)
theorem tb_698 : (Jvm.Cond.code ({ cls := "WeightedForest$SetupText", name := "readInto", desc := "(LWeightedForest$Forest;)I" } : Jvm.MethodName) prog_6_method_5_code (3 : Nat) (Option.some Jvm.ClassFile.FieldType.int)) ∈ TB := TB_in 698 (by decide +kernel) (by decide +kernel)
theorem tb_699 : (Jvm.Cond.methodLink "WeightedForest$SetupText" (25 : Nat) ({ cls := "WeightedForest$SetupText", name := "take", desc := "(II)I" } : Jvm.MethodName)) ∈ TB := TB_in 699 (by decide +kernel) (by decide +kernel)
theorem tb_701 : (Jvm.Cond.instanceMethod ({ cls := "WeightedForest$SetupText", name := "take", desc := "(II)I" } : Jvm.MethodName)) ∈ TB := TB_in 701 (by decide +kernel) (by decide +kernel)
theorem tb_702 : (Jvm.Cond.code ({ cls := "WeightedForest$SetupText", name := "take", desc := "(II)I" } : Jvm.MethodName) prog_6_method_11_code (4 : Nat) (Option.some Jvm.ClassFile.FieldType.int)) ∈ TB := TB_in 702 (by decide +kernel) (by decide +kernel)
theorem tb_703 : (Jvm.Cond.methodLink "WeightedForest$SetupText" (29 : Nat) ({ cls := "WeightedForest$SetupText", name := "takeNumber", desc := "(II)I" } : Jvm.MethodName)) ∈ TB := TB_in 703 (by decide +kernel) (by decide +kernel)
theorem tb_705 : (Jvm.Cond.instanceMethod ({ cls := "WeightedForest$SetupText", name := "takeNumber", desc := "(II)I" } : Jvm.MethodName)) ∈ TB := TB_in 705 (by decide +kernel) (by decide +kernel)
theorem tb_706 : (Jvm.Cond.code ({ cls := "WeightedForest$SetupText", name := "takeNumber", desc := "(II)I" } : Jvm.MethodName) prog_6_method_10_code (7 : Nat) (Option.some Jvm.ClassFile.FieldType.int)) ∈ TB := TB_in 706 (by decide +kernel) (by decide +kernel)
theorem tb_707 : (Jvm.Cond.methodLink "WeightedForest$SetupText" (32 : Nat) ({ cls := "WeightedForest$Forest", name := "reset", desc := "(I)V" } : Jvm.MethodName)) ∈ TB := TB_in 707 (by decide +kernel) (by decide +kernel)
theorem tb_708 : (Jvm.Cond.methodLink "WeightedForest$SetupText" (38 : Nat) ({ cls := "WeightedForest$SetupText", name := "takeWeights", desc := "(LWeightedForest$Forest;)Z" } : Jvm.MethodName)) ∈ TB := TB_in 708 (by decide +kernel) (by decide +kernel)
theorem tb_710 : (Jvm.Cond.instanceMethod ({ cls := "WeightedForest$SetupText", name := "takeWeights", desc := "(LWeightedForest$Forest;)Z" } : Jvm.MethodName)) ∈ TB := TB_in 710 (by decide +kernel) (by decide +kernel)
theorem tb_711 : (Jvm.Cond.code ({ cls := "WeightedForest$SetupText", name := "takeWeights", desc := "(LWeightedForest$Forest;)Z" } : Jvm.MethodName) prog_6_method_6_code (4 : Nat) (Option.some Jvm.ClassFile.FieldType.boolean)) ∈ TB := TB_in 711 (by decide +kernel) (by decide +kernel)
theorem tb_712 : (Jvm.Cond.methodLink "WeightedForest$SetupText" (45 : Nat) ({ cls := "WeightedForest$Forest", name := "vertices", desc := "()I" } : Jvm.MethodName)) ∈ TB := TB_in 712 (by decide +kernel) (by decide +kernel)
theorem tb_713 : (Jvm.Cond.methodLink "WeightedForest$SetupText" (49 : Nat) ({ cls := "WeightedForest$Forest", name := "putWeight", desc := "(II)V" } : Jvm.MethodName)) ∈ TB := TB_in 713 (by decide +kernel) (by decide +kernel)
theorem tb_714 : (Jvm.Cond.methodLink "WeightedForest$SetupText" (42 : Nat) ({ cls := "WeightedForest$SetupText", name := "takeEdges", desc := "(LWeightedForest$Forest;)Z" } : Jvm.MethodName)) ∈ TB := TB_in 714 (by decide +kernel) (by decide +kernel)
theorem tb_716 : (Jvm.Cond.instanceMethod ({ cls := "WeightedForest$SetupText", name := "takeEdges", desc := "(LWeightedForest$Forest;)Z" } : Jvm.MethodName)) ∈ TB := TB_in 716 (by decide +kernel) (by decide +kernel)
theorem tb_717 : (Jvm.Cond.code ({ cls := "WeightedForest$SetupText", name := "takeEdges", desc := "(LWeightedForest$Forest;)Z" } : Jvm.MethodName) prog_6_method_7_code (3 : Nat) (Option.some Jvm.ClassFile.FieldType.boolean)) ∈ TB := TB_in 717 (by decide +kernel) (by decide +kernel)
theorem tb_718 : (Jvm.Cond.methodLink "WeightedForest$SetupText" (53 : Nat) ({ cls := "WeightedForest$SetupText", name := "takeEdge", desc := "(LWeightedForest$Forest;)Z" } : Jvm.MethodName)) ∈ TB := TB_in 718 (by decide +kernel) (by decide +kernel)
theorem tb_720 : (Jvm.Cond.instanceMethod ({ cls := "WeightedForest$SetupText", name := "takeEdge", desc := "(LWeightedForest$Forest;)Z" } : Jvm.MethodName)) ∈ TB := TB_in 720 (by decide +kernel) (by decide +kernel)
theorem tb_721 : (Jvm.Cond.code ({ cls := "WeightedForest$SetupText", name := "takeEdge", desc := "(LWeightedForest$Forest;)Z" } : Jvm.MethodName) prog_6_method_8_code (6 : Nat) (Option.some Jvm.ClassFile.FieldType.boolean)) ∈ TB := TB_in 721 (by decide +kernel) (by decide +kernel)
theorem tb_722 : (Jvm.Cond.methodLink "WeightedForest$SetupText" (56 : Nat) ({ cls := "WeightedForest$Forest", name := "putEdge", desc := "(III)V" } : Jvm.MethodName)) ∈ TB := TB_in 722 (by decide +kernel) (by decide +kernel)
theorem tb_723 : (Jvm.Cond.methodLink "WeightedForest$SetupText" (60 : Nat) ({ cls := "WeightedForest$SetupText", name := "joinTrees", desc := "(II)V" } : Jvm.MethodName)) ∈ TB := TB_in 723 (by decide +kernel) (by decide +kernel)
theorem tb_725 : (Jvm.Cond.instanceMethod ({ cls := "WeightedForest$SetupText", name := "joinTrees", desc := "(II)V" } : Jvm.MethodName)) ∈ TB := TB_in 725 (by decide +kernel) (by decide +kernel)
theorem tb_726 : (Jvm.Cond.code ({ cls := "WeightedForest$SetupText", name := "joinTrees", desc := "(II)V" } : Jvm.MethodName) prog_6_method_9_code (4 : Nat) (Option.none : Option Jvm.ClassFile.FieldType)) ∈ TB := TB_in 726 (by decide +kernel) (by decide +kernel)
theorem tb_727 : (Jvm.Cond.methodLink "WeightedForest" (88 : Nat) ({ cls := "WeightedForest", name := "emptySlots", desc := "()V" } : Jvm.MethodName)) ∈ TB := TB_in 727 (by decide +kernel) (by decide +kernel)
theorem tb_729 : (Jvm.Cond.instanceMethod ({ cls := "WeightedForest", name := "emptySlots", desc := "()V" } : Jvm.MethodName)) ∈ TB := TB_in 729 (by decide +kernel) (by decide +kernel)
theorem tb_730 : (Jvm.Cond.code ({ cls := "WeightedForest", name := "emptySlots", desc := "()V" } : Jvm.MethodName) prog_1_method_6_code (2 : Nat) (Option.none : Option Jvm.ClassFile.FieldType)) ∈ TB := TB_in 730 (by decide +kernel) (by decide +kernel)
theorem tb_731 : (Jvm.Cond.methodLink "WeightedForestLaw" (136 : Nat) ({ cls := "WeightedForest", name := "undo", desc := "()I" } : Jvm.MethodName)) ∈ TB := TB_in 731 (by decide +kernel) (by decide +kernel)
theorem tb_732 : (Jvm.Cond.instanceMethod ({ cls := "WeightedForest", name := "undo", desc := "()I" } : Jvm.MethodName)) ∈ TB := TB_in 732 (by decide +kernel) (by decide +kernel)
theorem tb_733 : (Jvm.Cond.selects "WeightedForest" ({ cls := "WeightedForest", name := "undo", desc := "()I" } : Jvm.MethodName) ({ cls := "WeightedForest", name := "undo", desc := "()I" } : Jvm.MethodName)) ∈ TB := TB_in 733 (by decide +kernel) (by decide +kernel)
theorem tb_734 : (Jvm.Cond.code ({ cls := "WeightedForest", name := "undo", desc := "()I" } : Jvm.MethodName) prog_1_method_14_code (1 : Nat) (Option.some Jvm.ClassFile.FieldType.int)) ∈ TB := TB_in 734 (by decide +kernel) (by decide +kernel)
theorem tb_735 : (Jvm.Cond.methodLink "WeightedForest" (137 : Nat) ({ cls := "WeightedForest$History", name := "takeBack", desc := "(LWeightedForest$Forest;)Z" } : Jvm.MethodName)) ∈ TB := TB_in 735 (by decide +kernel) (by decide +kernel)
theorem tb_736 : (Jvm.Cond.instanceMethod ({ cls := "WeightedForest$History", name := "takeBack", desc := "(LWeightedForest$Forest;)Z" } : Jvm.MethodName)) ∈ TB := TB_in 736 (by decide +kernel) (by decide +kernel)
theorem tb_737 : (Jvm.Cond.selects "WeightedForest$History" ({ cls := "WeightedForest$History", name := "takeBack", desc := "(LWeightedForest$Forest;)Z" } : Jvm.MethodName) ({ cls := "WeightedForest$History", name := "takeBack", desc := "(LWeightedForest$Forest;)Z" } : Jvm.MethodName)) ∈ TB := TB_in 737 (by decide +kernel) (by decide +kernel)
theorem tb_738 : (Jvm.Cond.code ({ cls := "WeightedForest$History", name := "takeBack", desc := "(LWeightedForest$Forest;)Z" } : Jvm.MethodName) prog_4_method_4_code (2 : Nat) (Option.some Jvm.ClassFile.FieldType.boolean)) ∈ TB := TB_in 738 (by decide +kernel) (by decide +kernel)
theorem tb_739 : (Jvm.Cond.methodLink "WeightedForest" (141 : Nat) ({ cls := "WeightedForest$History", name := "size", desc := "()I" } : Jvm.MethodName)) ∈ TB := TB_in 739 (by decide +kernel) (by decide +kernel)
theorem tb_740 : (Jvm.Cond.instanceMethod ({ cls := "WeightedForest$History", name := "size", desc := "()I" } : Jvm.MethodName)) ∈ TB := TB_in 740 (by decide +kernel) (by decide +kernel)
theorem tb_741 : (Jvm.Cond.selects "WeightedForest$History" ({ cls := "WeightedForest$History", name := "size", desc := "()I" } : Jvm.MethodName) ({ cls := "WeightedForest$History", name := "size", desc := "()I" } : Jvm.MethodName)) ∈ TB := TB_in 741 (by decide +kernel) (by decide +kernel)
theorem tb_742 : (Jvm.Cond.code ({ cls := "WeightedForest$History", name := "size", desc := "()I" } : Jvm.MethodName) prog_4_method_2_code (1 : Nat) (Option.some Jvm.ClassFile.FieldType.int)) ∈ TB := TB_in 742 (by decide +kernel) (by decide +kernel)
theorem tb_743 : (Jvm.Cond.arrayClass Jvm.ClassFile.FieldType.byte) ∈ TB := TB_in 743 (by decide +kernel) (by decide +kernel)
theorem tb_744 : (Jvm.Cond.methodLink "WeightedForestLaw" (178 : Nat) ({ cls := "WeightedForestLaw", name := "alike", desc := "(LWeightedForest;LWeightedForest;)Z" } : Jvm.MethodName)) ∈ TB := TB_in 744 (by decide +kernel) (by decide +kernel)
theorem tb_745 : (Jvm.Cond.static ({ cls := "WeightedForestLaw", name := "alike", desc := "(LWeightedForest;LWeightedForest;)Z" } : Jvm.MethodName)) ∈ TB := TB_in 745 (by decide +kernel) (by decide +kernel)
theorem tb_747 : (Jvm.Cond.methodLink "WeightedForestLaw" (147 : Nat) ({ cls := "WeightedForestLaw", name := "now", desc := "(LWeightedForest;)J" } : Jvm.MethodName)) ∈ TB := TB_in 747 (by decide +kernel) (by decide +kernel)
theorem tb_748 : (Jvm.Cond.static ({ cls := "WeightedForestLaw", name := "now", desc := "(LWeightedForest;)J" } : Jvm.MethodName)) ∈ TB := TB_in 748 (by decide +kernel) (by decide +kernel)
theorem tb_750 : (Jvm.Cond.constantLong "WeightedForestLaw" (139 : Nat) (1009 : Int64)) ∈ TB := TB_in 750 (by decide +kernel) (by decide +kernel)
theorem tb_751 : (Jvm.Cond.constantLong "WeightedForestLaw" (141 : Nat) (1000000007 : Int64)) ∈ TB := TB_in 751 (by decide +kernel) (by decide +kernel)
theorem tb_752 : (Jvm.Cond.constantLong "WeightedForestLaw" (143 : Nat) (113 : Int64)) ∈ TB := TB_in 752 (by decide +kernel) (by decide +kernel)
theorem tb_753 : (Jvm.Cond.constantLong "WeightedForestLaw" (145 : Nat) (1000000009 : Int64)) ∈ TB := TB_in 753 (by decide +kernel) (by decide +kernel)
theorem tb_754 : (Jvm.Cond.methodLink "WeightedForestLaw" (151 : Nat) ({ cls := "WeightedForest", name := "errorPosition", desc := "()I" } : Jvm.MethodName)) ∈ TB := TB_in 754 (by decide +kernel) (by decide +kernel)
theorem tb_755 : (Jvm.Cond.instanceMethod ({ cls := "WeightedForest", name := "errorPosition", desc := "()I" } : Jvm.MethodName)) ∈ TB := TB_in 755 (by decide +kernel) (by decide +kernel)
theorem tb_756 : (Jvm.Cond.selects "WeightedForest" ({ cls := "WeightedForest", name := "errorPosition", desc := "()I" } : Jvm.MethodName) ({ cls := "WeightedForest", name := "errorPosition", desc := "()I" } : Jvm.MethodName)) ∈ TB := TB_in 756 (by decide +kernel) (by decide +kernel)
theorem tb_757 : (Jvm.Cond.code ({ cls := "WeightedForest", name := "errorPosition", desc := "()I" } : Jvm.MethodName) prog_1_method_4_code (1 : Nat) (Option.some Jvm.ClassFile.FieldType.int)) ∈ TB := TB_in 757 (by decide +kernel) (by decide +kernel)
theorem tb_758 : (Jvm.Cond.constantLong "WeightedForestLaw" (154 : Nat) (5 : Int64)) ∈ TB := TB_in 758 (by decide +kernel) (by decide +kernel)
theorem tb_759 : (Jvm.Cond.methodLink "WeightedForestLaw" (182 : Nat) ({ cls := "WeightedForestLaw", name := "built", desc := "(LWeightedForest;I)Z" } : Jvm.MethodName)) ∈ TB := TB_in 759 (by decide +kernel) (by decide +kernel)
theorem tb_760 : (Jvm.Cond.static ({ cls := "WeightedForestLaw", name := "built", desc := "(LWeightedForest;I)Z" } : Jvm.MethodName)) ∈ TB := TB_in 760 (by decide +kernel) (by decide +kernel)
theorem tb_762 : (Jvm.Cond.constantLong "WeightedForestLaw" (156 : Nat) (7 : Int64)) ∈ TB := TB_in 762 (by decide +kernel) (by decide +kernel)
theorem tb_763 : (Jvm.Cond.constantLong "WeightedForestLaw" (158 : Nat) (10 : Int64)) ∈ TB := TB_in 763 (by decide +kernel) (by decide +kernel)
theorem tb_764 : (Jvm.Cond.constantLong "WeightedForestLaw" (160 : Nat) (30000 : Int64)) ∈ TB := TB_in 764 (by decide +kernel) (by decide +kernel)
theorem tb_765 : (Jvm.Cond.constantLong "WeightedForestLaw" (162 : Nat) (40000 : Int64)) ∈ TB := TB_in 765 (by decide +kernel) (by decide +kernel)
theorem tb_766 : (Jvm.Cond.methodLink "WeightedForestLaw" (186 : Nat) ({ cls := "WeightedForestLaw", name := "ahead", desc := "(LWeightedForest;I)Z" } : Jvm.MethodName)) ∈ TB := TB_in 766 (by decide +kernel) (by decide +kernel)
theorem tb_767 : (Jvm.Cond.static ({ cls := "WeightedForestLaw", name := "ahead", desc := "(LWeightedForest;I)Z" } : Jvm.MethodName)) ∈ TB := TB_in 767 (by decide +kernel) (by decide +kernel)
theorem tb_769 : (Jvm.Cond.constantLong "WeightedForestLaw" (164 : Nat) (2000030000 : Int64)) ∈ TB := TB_in 769 (by decide +kernel) (by decide +kernel)
theorem tb_770 : (Jvm.Cond.fieldLink "java/lang/String" (15 : Nat) "java/lang/String" "coder" "B") ∈ TB := TB_in 770 (by decide +kernel) (by decide +kernel)
theorem tb_771 : (Jvm.Cond.fieldLink "java/lang/String" (9 : Nat) "java/lang/String" "value" "[B") ∈ TB := TB_in 771 (by decide +kernel) (by decide +kernel)
theorem inX0 : ∀ w ∈ u_ws RX0 TX0 7, w ∈ TB := by decide +kernel
theorem inX1 : ∀ w ∈ u_ws RX1 TX1 3, w ∈ TB := by decide +kernel
theorem inX2 : ∀ w ∈ u_ws RX2 TX2 3, w ∈ TB := by decide +kernel
theorem inX3 : ∀ w ∈ u_ws RX3 TX3 5, w ∈ TB := by decide +kernel
theorem inX4 : ∀ w ∈ u_ws RX4 TX4 4, w ∈ TB := by decide +kernel
theorem inX5 : ∀ w ∈ u_ws RX5 TX5 3, w ∈ TB := by decide +kernel
theorem inX6 : ∀ w ∈ u_ws RX6 TX6 10, w ∈ TB := by decide +kernel
end
section
set_option maxRecDepth 100000 in
theorem tb_225 : (Jvm.Cond.code ({ cls := "WeightedForestLaw", name := "cell", desc := "([II)I" } : Jvm.MethodName) method_2_code (2 : Nat) (Option.some Jvm.ClassFile.FieldType.int)) ∈ TB := List.mem_filter.mpr ⟨List.mem_append_right _ (show (Jvm.Cond.code ({ cls := "WeightedForestLaw", name := "cell", desc := "([II)I" } : Jvm.MethodName) method_2_code (2 : Nat) (Option.some Jvm.ClassFile.FieldType.int)) ∈ tables_1 from (List.mem_append_left _ (List.Mem.tail _ (List.Mem.tail _ (List.Mem.tail _ (List.Mem.tail _ (List.Mem.tail _ (List.Mem.tail _ (List.Mem.tail _ (List.Mem.tail _ (List.Mem.tail _ (List.Mem.tail _ (List.Mem.tail _ (List.Mem.tail _ (List.Mem.tail _ (List.Mem.tail _ (List.Mem.tail _ (List.Mem.tail _ (List.Mem.tail _ (List.Mem.tail _ (List.Mem.tail _ (List.Mem.tail _ (List.Mem.tail _ (List.Mem.tail _ (List.Mem.tail _ (List.Mem.tail _ (List.Mem.tail _ (List.Mem.tail _ (List.Mem.tail _ (List.Mem.tail _ (List.Mem.tail _ (List.Mem.tail _ (List.Mem.tail _ (List.Mem.tail _ (List.Mem.tail _ (List.Mem.tail _ (List.Mem.tail _ (List.Mem.tail _ (List.Mem.tail _ (List.Mem.tail _ (List.Mem.tail _ (List.Mem.tail _ (List.Mem.tail _ (List.Mem.tail _ (List.Mem.tail _ (List.Mem.tail _ (List.Mem.tail _ (List.Mem.tail _ (List.Mem.tail _ (List.Mem.tail _ (List.Mem.tail _ (List.Mem.tail _ (List.Mem.tail _ (List.Mem.tail _ (List.Mem.tail _ (List.Mem.tail _ (List.Mem.tail _ (List.Mem.tail _ (List.Mem.tail _ (List.Mem.tail _ (List.Mem.tail _ (List.Mem.tail _ (List.Mem.tail _ (List.Mem.tail _ (List.Mem.tail _ (List.Mem.tail _ (List.Mem.tail _ (List.Mem.tail _ (List.Mem.tail _ (List.Mem.tail _ (List.Mem.tail _ (List.Mem.tail _ (List.Mem.tail _ (List.Mem.tail _ (List.Mem.tail _ (List.Mem.tail _ (List.Mem.tail _ (List.Mem.tail _ (List.Mem.tail _ (List.Mem.tail _ (List.Mem.tail _ (List.Mem.tail _ (List.Mem.tail _ (List.Mem.tail _ (List.Mem.tail _ (List.Mem.tail _ (List.Mem.tail _ (List.Mem.tail _ (List.Mem.tail _ (List.Mem.tail _ (List.Mem.tail _ (List.Mem.tail _ (List.Mem.tail _ (List.Mem.tail _ (List.Mem.tail _ (List.Mem.tail _ (List.Mem.tail _ (List.Mem.tail _ (List.Mem.tail _ (List.Mem.tail _ (List.Mem.tail _ (List.Mem.tail _ (List.Mem.tail _ (List.Mem.tail _ (List.Mem.tail _ (List.Mem.tail _ (List.Mem.tail _ (List.Mem.tail _ (List.Mem.tail _ (List.Mem.tail _ (List.Mem.tail _ (List.Mem.tail _ (List.Mem.tail _ (List.Mem.tail _ (List.Mem.tail _ (List.Mem.tail _ (List.Mem.tail _ (List.Mem.tail _ (List.Mem.tail _ (List.Mem.tail _ (List.Mem.tail _ (List.Mem.tail _ (List.Mem.tail _ (List.Mem.tail _ (List.Mem.tail _ (List.Mem.tail _ (List.Mem.tail _ (List.Mem.tail _ (List.Mem.tail _ (List.Mem.tail _ (List.Mem.tail _ (List.Mem.tail _ (List.Mem.tail _ (List.Mem.tail _ (List.Mem.tail _ (List.Mem.tail _ (List.Mem.tail _ (List.Mem.tail _ (List.Mem.tail _ (List.Mem.tail _ (List.Mem.tail _ (List.Mem.tail _ (List.Mem.tail _ (List.Mem.tail _ (List.Mem.tail _ (List.Mem.tail _ (List.Mem.tail _ (List.Mem.tail _ (List.Mem.tail _ (List.Mem.tail _ (List.Mem.tail _ (List.Mem.tail _ (List.Mem.tail _ (List.Mem.tail _ (List.Mem.tail _ (List.Mem.tail _ (List.Mem.tail _ (List.Mem.tail _ (List.Mem.tail _ (List.Mem.tail _ (List.Mem.tail _ (List.Mem.tail _ (List.Mem.tail _ (List.Mem.tail _ (List.Mem.tail _ (List.Mem.tail _ (List.Mem.tail _ (List.Mem.tail _ (List.Mem.tail _ (List.Mem.tail _ (List.Mem.tail _ (List.Mem.tail _ (List.Mem.tail _ (List.Mem.tail _ (List.Mem.tail _ (List.Mem.tail _ (List.Mem.tail _ (List.Mem.tail _ (List.Mem.tail _ (List.Mem.tail _ (List.Mem.tail _ (List.Mem.tail _ (List.Mem.tail _ (List.Mem.tail _ (List.Mem.tail _ (List.Mem.tail _ (List.Mem.tail _ (List.Mem.tail _ (List.Mem.tail _ (List.Mem.tail _ (List.Mem.tail _ (List.Mem.tail _ (List.Mem.tail _ (List.Mem.tail _ (List.Mem.tail _ (List.Mem.tail _ (List.Mem.tail _ (List.Mem.head _)))))))))))))))))))))))))))))))))))))))))))))))))))))))))))))))))))))))))))))))))))))))))))))))))))))))))))))))))))))))))))))))))))))))))))))))))))))))))))))))))))))))))))))))))))))))))))))))))))))), rfl⟩
set_option maxRecDepth 100000 in
theorem tb_230 : (Jvm.Cond.code ({ cls := "WeightedForestLaw", name := "errors", desc := "(LWeightedForest;)Z" } : Jvm.MethodName) method_4_code (3 : Nat) (Option.some Jvm.ClassFile.FieldType.boolean)) ∈ TB := List.mem_filter.mpr ⟨List.mem_append_right _ (show (Jvm.Cond.code ({ cls := "WeightedForestLaw", name := "errors", desc := "(LWeightedForest;)Z" } : Jvm.MethodName) method_4_code (3 : Nat) (Option.some Jvm.ClassFile.FieldType.boolean)) ∈ tables_1 from (List.mem_append_left _ (List.Mem.tail _ (List.Mem.tail _ (List.Mem.tail _ (List.Mem.tail _ (List.Mem.tail _ (List.Mem.tail _ (List.Mem.tail _ (List.Mem.tail _ (List.Mem.tail _ (List.Mem.tail _ (List.Mem.tail _ (List.Mem.tail _ (List.Mem.tail _ (List.Mem.tail _ (List.Mem.tail _ (List.Mem.tail _ (List.Mem.tail _ (List.Mem.tail _ (List.Mem.tail _ (List.Mem.tail _ (List.Mem.tail _ (List.Mem.tail _ (List.Mem.tail _ (List.Mem.tail _ (List.Mem.tail _ (List.Mem.tail _ (List.Mem.tail _ (List.Mem.tail _ (List.Mem.tail _ (List.Mem.tail _ (List.Mem.tail _ (List.Mem.tail _ (List.Mem.tail _ (List.Mem.tail _ (List.Mem.tail _ (List.Mem.tail _ (List.Mem.tail _ (List.Mem.tail _ (List.Mem.tail _ (List.Mem.tail _ (List.Mem.tail _ (List.Mem.tail _ (List.Mem.tail _ (List.Mem.tail _ (List.Mem.tail _ (List.Mem.tail _ (List.Mem.tail _ (List.Mem.tail _ (List.Mem.tail _ (List.Mem.tail _ (List.Mem.tail _ (List.Mem.tail _ (List.Mem.tail _ (List.Mem.tail _ (List.Mem.tail _ (List.Mem.tail _ (List.Mem.tail _ (List.Mem.tail _ (List.Mem.tail _ (List.Mem.tail _ (List.Mem.tail _ (List.Mem.tail _ (List.Mem.tail _ (List.Mem.tail _ (List.Mem.tail _ (List.Mem.tail _ (List.Mem.tail _ (List.Mem.tail _ (List.Mem.tail _ (List.Mem.tail _ (List.Mem.tail _ (List.Mem.tail _ (List.Mem.tail _ (List.Mem.tail _ (List.Mem.tail _ (List.Mem.tail _ (List.Mem.tail _ (List.Mem.tail _ (List.Mem.tail _ (List.Mem.tail _ (List.Mem.tail _ (List.Mem.tail _ (List.Mem.tail _ (List.Mem.tail _ (List.Mem.tail _ (List.Mem.tail _ (List.Mem.tail _ (List.Mem.tail _ (List.Mem.tail _ (List.Mem.tail _ (List.Mem.tail _ (List.Mem.tail _ (List.Mem.tail _ (List.Mem.tail _ (List.Mem.tail _ (List.Mem.tail _ (List.Mem.tail _ (List.Mem.tail _ (List.Mem.tail _ (List.Mem.tail _ (List.Mem.tail _ (List.Mem.tail _ (List.Mem.tail _ (List.Mem.tail _ (List.Mem.tail _ (List.Mem.tail _ (List.Mem.tail _ (List.Mem.tail _ (List.Mem.tail _ (List.Mem.tail _ (List.Mem.tail _ (List.Mem.tail _ (List.Mem.tail _ (List.Mem.tail _ (List.Mem.tail _ (List.Mem.tail _ (List.Mem.tail _ (List.Mem.tail _ (List.Mem.tail _ (List.Mem.tail _ (List.Mem.tail _ (List.Mem.tail _ (List.Mem.tail _ (List.Mem.tail _ (List.Mem.tail _ (List.Mem.tail _ (List.Mem.tail _ (List.Mem.tail _ (List.Mem.tail _ (List.Mem.tail _ (List.Mem.tail _ (List.Mem.tail _ (List.Mem.tail _ (List.Mem.tail _ (List.Mem.tail _ (List.Mem.tail _ (List.Mem.tail _ (List.Mem.tail _ (List.Mem.tail _ (List.Mem.tail _ (List.Mem.tail _ (List.Mem.tail _ (List.Mem.tail _ (List.Mem.tail _ (List.Mem.tail _ (List.Mem.tail _ (List.Mem.tail _ (List.Mem.tail _ (List.Mem.tail _ (List.Mem.tail _ (List.Mem.tail _ (List.Mem.tail _ (List.Mem.tail _ (List.Mem.tail _ (List.Mem.tail _ (List.Mem.tail _ (List.Mem.tail _ (List.Mem.tail _ (List.Mem.tail _ (List.Mem.tail _ (List.Mem.tail _ (List.Mem.tail _ (List.Mem.tail _ (List.Mem.tail _ (List.Mem.tail _ (List.Mem.tail _ (List.Mem.tail _ (List.Mem.tail _ (List.Mem.tail _ (List.Mem.tail _ (List.Mem.tail _ (List.Mem.tail _ (List.Mem.tail _ (List.Mem.tail _ (List.Mem.tail _ (List.Mem.tail _ (List.Mem.tail _ (List.Mem.tail _ (List.Mem.tail _ (List.Mem.tail _ (List.Mem.tail _ (List.Mem.tail _ (List.Mem.tail _ (List.Mem.tail _ (List.Mem.tail _ (List.Mem.tail _ (List.Mem.tail _ (List.Mem.tail _ (List.Mem.tail _ (List.Mem.tail _ (List.Mem.tail _ (List.Mem.tail _ (List.Mem.tail _ (List.Mem.tail _ (List.Mem.tail _ (List.Mem.tail _ (List.Mem.tail _ (List.Mem.tail _ (List.Mem.tail _ (List.Mem.tail _ (List.Mem.head _))))))))))))))))))))))))))))))))))))))))))))))))))))))))))))))))))))))))))))))))))))))))))))))))))))))))))))))))))))))))))))))))))))))))))))))))))))))))))))))))))))))))))))))))))))))))))))))))))))))))))), rfl⟩
set_option maxRecDepth 100000 in
theorem tb_233 : (Jvm.Cond.code ({ cls := "WeightedForestLaw", name := "vertices", desc := "(LWeightedForest;)I" } : Jvm.MethodName) method_3_code (2 : Nat) (Option.some Jvm.ClassFile.FieldType.int)) ∈ TB := List.mem_filter.mpr ⟨List.mem_append_right _ (show (Jvm.Cond.code ({ cls := "WeightedForestLaw", name := "vertices", desc := "(LWeightedForest;)I" } : Jvm.MethodName) method_3_code (2 : Nat) (Option.some Jvm.ClassFile.FieldType.int)) ∈ tables_1 from (List.mem_append_left _ (List.Mem.tail _ (List.Mem.tail _ (List.Mem.tail _ (List.Mem.tail _ (List.Mem.tail _ (List.Mem.tail _ (List.Mem.tail _ (List.Mem.tail _ (List.Mem.tail _ (List.Mem.tail _ (List.Mem.tail _ (List.Mem.tail _ (List.Mem.tail _ (List.Mem.tail _ (List.Mem.tail _ (List.Mem.tail _ (List.Mem.tail _ (List.Mem.tail _ (List.Mem.tail _ (List.Mem.tail _ (List.Mem.tail _ (List.Mem.tail _ (List.Mem.tail _ (List.Mem.tail _ (List.Mem.tail _ (List.Mem.tail _ (List.Mem.tail _ (List.Mem.tail _ (List.Mem.tail _ (List.Mem.tail _ (List.Mem.tail _ (List.Mem.tail _ (List.Mem.tail _ (List.Mem.tail _ (List.Mem.tail _ (List.Mem.tail _ (List.Mem.tail _ (List.Mem.tail _ (List.Mem.tail _ (List.Mem.tail _ (List.Mem.tail _ (List.Mem.tail _ (List.Mem.tail _ (List.Mem.tail _ (List.Mem.tail _ (List.Mem.tail _ (List.Mem.tail _ (List.Mem.tail _ (List.Mem.tail _ (List.Mem.tail _ (List.Mem.tail _ (List.Mem.tail _ (List.Mem.tail _ (List.Mem.tail _ (List.Mem.tail _ (List.Mem.tail _ (List.Mem.tail _ (List.Mem.tail _ (List.Mem.tail _ (List.Mem.tail _ (List.Mem.tail _ (List.Mem.tail _ (List.Mem.tail _ (List.Mem.tail _ (List.Mem.tail _ (List.Mem.tail _ (List.Mem.tail _ (List.Mem.tail _ (List.Mem.tail _ (List.Mem.tail _ (List.Mem.tail _ (List.Mem.tail _ (List.Mem.tail _ (List.Mem.tail _ (List.Mem.tail _ (List.Mem.tail _ (List.Mem.tail _ (List.Mem.tail _ (List.Mem.tail _ (List.Mem.tail _ (List.Mem.tail _ (List.Mem.tail _ (List.Mem.tail _ (List.Mem.tail _ (List.Mem.tail _ (List.Mem.tail _ (List.Mem.tail _ (List.Mem.tail _ (List.Mem.tail _ (List.Mem.tail _ (List.Mem.tail _ (List.Mem.tail _ (List.Mem.tail _ (List.Mem.tail _ (List.Mem.tail _ (List.Mem.tail _ (List.Mem.tail _ (List.Mem.tail _ (List.Mem.tail _ (List.Mem.tail _ (List.Mem.tail _ (List.Mem.tail _ (List.Mem.tail _ (List.Mem.tail _ (List.Mem.tail _ (List.Mem.tail _ (List.Mem.tail _ (List.Mem.tail _ (List.Mem.tail _ (List.Mem.tail _ (List.Mem.tail _ (List.Mem.tail _ (List.Mem.tail _ (List.Mem.tail _ (List.Mem.tail _ (List.Mem.tail _ (List.Mem.tail _ (List.Mem.tail _ (List.Mem.tail _ (List.Mem.tail _ (List.Mem.tail _ (List.Mem.tail _ (List.Mem.tail _ (List.Mem.tail _ (List.Mem.tail _ (List.Mem.tail _ (List.Mem.tail _ (List.Mem.tail _ (List.Mem.tail _ (List.Mem.tail _ (List.Mem.tail _ (List.Mem.tail _ (List.Mem.tail _ (List.Mem.tail _ (List.Mem.tail _ (List.Mem.tail _ (List.Mem.tail _ (List.Mem.tail _ (List.Mem.tail _ (List.Mem.tail _ (List.Mem.tail _ (List.Mem.tail _ (List.Mem.tail _ (List.Mem.tail _ (List.Mem.tail _ (List.Mem.tail _ (List.Mem.tail _ (List.Mem.tail _ (List.Mem.tail _ (List.Mem.tail _ (List.Mem.tail _ (List.Mem.tail _ (List.Mem.tail _ (List.Mem.tail _ (List.Mem.tail _ (List.Mem.tail _ (List.Mem.tail _ (List.Mem.tail _ (List.Mem.tail _ (List.Mem.tail _ (List.Mem.tail _ (List.Mem.tail _ (List.Mem.tail _ (List.Mem.tail _ (List.Mem.tail _ (List.Mem.tail _ (List.Mem.tail _ (List.Mem.tail _ (List.Mem.tail _ (List.Mem.tail _ (List.Mem.tail _ (List.Mem.tail _ (List.Mem.tail _ (List.Mem.tail _ (List.Mem.tail _ (List.Mem.tail _ (List.Mem.tail _ (List.Mem.tail _ (List.Mem.tail _ (List.Mem.tail _ (List.Mem.tail _ (List.Mem.tail _ (List.Mem.tail _ (List.Mem.tail _ (List.Mem.tail _ (List.Mem.tail _ (List.Mem.tail _ (List.Mem.tail _ (List.Mem.tail _ (List.Mem.tail _ (List.Mem.tail _ (List.Mem.tail _ (List.Mem.tail _ (List.Mem.tail _ (List.Mem.tail _ (List.Mem.tail _ (List.Mem.tail _ (List.Mem.tail _ (List.Mem.tail _ (List.Mem.tail _ (List.Mem.tail _ (List.Mem.tail _ (List.Mem.tail _ (List.Mem.head _)))))))))))))))))))))))))))))))))))))))))))))))))))))))))))))))))))))))))))))))))))))))))))))))))))))))))))))))))))))))))))))))))))))))))))))))))))))))))))))))))))))))))))))))))))))))))))))))))))))))))))))), rfl⟩
set_option maxRecDepth 100000 in
theorem tb_634 : (Jvm.Cond.code ({ cls := "WeightedForestLaw", name := "act", desc := "(LWeightedForest;II)I" } : Jvm.MethodName) method_7_code (3 : Nat) (Option.some Jvm.ClassFile.FieldType.int)) ∈ TB := List.mem_filter.mpr ⟨List.mem_append_right _ (show (Jvm.Cond.code ({ cls := "WeightedForestLaw", name := "act", desc := "(LWeightedForest;II)I" } : Jvm.MethodName) method_7_code (3 : Nat) (Option.some Jvm.ClassFile.FieldType.int)) ∈ tables_1 from (List.mem_append_right _ (List.mem_append_right _ (List.mem_append_left _ (List.Mem.tail _ (List.Mem.tail _ (List.Mem.tail _ (List.Mem.tail _ (List.Mem.tail _ (List.Mem.tail _ (List.Mem.tail _ (List.Mem.tail _ (List.Mem.tail _ (List.Mem.tail _ (List.Mem.tail _ (List.Mem.tail _ (List.Mem.tail _ (List.Mem.tail _ (List.Mem.tail _ (List.Mem.tail _ (List.Mem.tail _ (List.Mem.tail _ (List.Mem.tail _ (List.Mem.tail _ (List.Mem.tail _ (List.Mem.tail _ (List.Mem.tail _ (List.Mem.tail _ (List.Mem.tail _ (List.Mem.tail _ (List.Mem.tail _ (List.Mem.tail _ (List.Mem.tail _ (List.Mem.tail _ (List.Mem.tail _ (List.Mem.tail _ (List.Mem.tail _ (List.Mem.tail _ (List.Mem.tail _ (List.Mem.tail _ (List.Mem.tail _ (List.Mem.tail _ (List.Mem.tail _ (List.Mem.tail _ (List.Mem.tail _ (List.Mem.tail _ (List.Mem.tail _ (List.Mem.tail _ (List.Mem.tail _ (List.Mem.tail _ (List.Mem.tail _ (List.Mem.tail _ (List.Mem.tail _ (List.Mem.tail _ (List.Mem.tail _ (List.Mem.tail _ (List.Mem.tail _ (List.Mem.tail _ (List.Mem.tail _ (List.Mem.tail _ (List.Mem.tail _ (List.Mem.tail _ (List.Mem.tail _ (List.Mem.tail _ (List.Mem.tail _ (List.Mem.tail _ (List.Mem.tail _ (List.Mem.tail _ (List.Mem.tail _ (List.Mem.tail _ (List.Mem.tail _ (List.Mem.tail _ (List.Mem.tail _ (List.Mem.tail _ (List.Mem.tail _ (List.Mem.tail _ (List.Mem.tail _ (List.Mem.tail _ (List.Mem.tail _ (List.Mem.tail _ (List.Mem.tail _ (List.Mem.tail _ (List.Mem.tail _ (List.Mem.tail _ (List.Mem.tail _ (List.Mem.tail _ (List.Mem.tail _ (List.Mem.tail _ (List.Mem.tail _ (List.Mem.tail _ (List.Mem.tail _ (List.Mem.tail _ (List.Mem.tail _ (List.Mem.tail _ (List.Mem.tail _ (List.Mem.tail _ (List.Mem.tail _ (List.Mem.tail _ (List.Mem.tail _ (List.Mem.tail _ (List.Mem.tail _ (List.Mem.tail _ (List.Mem.tail _ (List.Mem.tail _ (List.Mem.tail _ (List.Mem.tail _ (List.Mem.tail _ (List.Mem.tail _ (List.Mem.tail _ (List.Mem.tail _ (List.Mem.tail _ (List.Mem.tail _ (List.Mem.tail _ (List.Mem.tail _ (List.Mem.tail _ (List.Mem.tail _ (List.Mem.tail _ (List.Mem.tail _ (List.Mem.tail _ (List.Mem.tail _ (List.Mem.tail _ (List.Mem.tail _ (List.Mem.tail _ (List.Mem.tail _ (List.Mem.tail _ (List.Mem.tail _ (List.Mem.tail _ (List.Mem.tail _ (List.Mem.head _))))))))))))))))))))))))))))))))))))))))))))))))))))))))))))))))))))))))))))))))))))))))))))))))))))))))))))))))))))))))))))))))), rfl⟩
set_option maxRecDepth 100000 in
theorem tb_637 : (Jvm.Cond.code ({ cls := "WeightedForestLaw", name := "load", desc := "(LWeightedForest;II)I" } : Jvm.MethodName) method_6_code (8 : Nat) (Option.some Jvm.ClassFile.FieldType.int)) ∈ TB := List.mem_filter.mpr ⟨List.mem_append_right _ (show (Jvm.Cond.code ({ cls := "WeightedForestLaw", name := "load", desc := "(LWeightedForest;II)I" } : Jvm.MethodName) method_6_code (8 : Nat) (Option.some Jvm.ClassFile.FieldType.int)) ∈ tables_1 from (List.mem_append_right _ (List.mem_append_right _ (List.mem_append_left _ (List.Mem.tail _ (List.Mem.tail _ (List.Mem.tail _ (List.Mem.tail _ (List.Mem.tail _ (List.Mem.tail _ (List.Mem.tail _ (List.Mem.tail _ (List.Mem.tail _ (List.Mem.tail _ (List.Mem.tail _ (List.Mem.tail _ (List.Mem.tail _ (List.Mem.tail _ (List.Mem.tail _ (List.Mem.tail _ (List.Mem.tail _ (List.Mem.tail _ (List.Mem.tail _ (List.Mem.tail _ (List.Mem.tail _ (List.Mem.tail _ (List.Mem.tail _ (List.Mem.tail _ (List.Mem.tail _ (List.Mem.tail _ (List.Mem.tail _ (List.Mem.tail _ (List.Mem.tail _ (List.Mem.tail _ (List.Mem.tail _ (List.Mem.tail _ (List.Mem.tail _ (List.Mem.tail _ (List.Mem.tail _ (List.Mem.tail _ (List.Mem.tail _ (List.Mem.tail _ (List.Mem.tail _ (List.Mem.tail _ (List.Mem.tail _ (List.Mem.tail _ (List.Mem.tail _ (List.Mem.tail _ (List.Mem.tail _ (List.Mem.tail _ (List.Mem.tail _ (List.Mem.tail _ (List.Mem.tail _ (List.Mem.tail _ (List.Mem.tail _ (List.Mem.tail _ (List.Mem.tail _ (List.Mem.tail _ (List.Mem.tail _ (List.Mem.tail _ (List.Mem.tail _ (List.Mem.tail _ (List.Mem.tail _ (List.Mem.tail _ (List.Mem.tail _ (List.Mem.tail _ (List.Mem.tail _ (List.Mem.tail _ (List.Mem.tail _ (List.Mem.tail _ (List.Mem.tail _ (List.Mem.tail _ (List.Mem.tail _ (List.Mem.tail _ (List.Mem.tail _ (List.Mem.tail _ (List.Mem.tail _ (List.Mem.tail _ (List.Mem.tail _ (List.Mem.tail _ (List.Mem.tail _ (List.Mem.tail _ (List.Mem.tail _ (List.Mem.tail _ (List.Mem.tail _ (List.Mem.tail _ (List.Mem.tail _ (List.Mem.tail _ (List.Mem.tail _ (List.Mem.tail _ (List.Mem.tail _ (List.Mem.tail _ (List.Mem.tail _ (List.Mem.tail _ (List.Mem.tail _ (List.Mem.tail _ (List.Mem.tail _ (List.Mem.tail _ (List.Mem.tail _ (List.Mem.tail _ (List.Mem.tail _ (List.Mem.tail _ (List.Mem.tail _ (List.Mem.tail _ (List.Mem.tail _ (List.Mem.tail _ (List.Mem.tail _ (List.Mem.tail _ (List.Mem.tail _ (List.Mem.tail _ (List.Mem.tail _ (List.Mem.tail _ (List.Mem.tail _ (List.Mem.tail _ (List.Mem.tail _ (List.Mem.tail _ (List.Mem.tail _ (List.Mem.tail _ (List.Mem.tail _ (List.Mem.tail _ (List.Mem.tail _ (List.Mem.tail _ (List.Mem.tail _ (List.Mem.tail _ (List.Mem.tail _ (List.Mem.tail _ (List.Mem.tail _ (List.Mem.tail _ (List.Mem.tail _ (List.Mem.tail _ (List.Mem.tail _ (List.Mem.head _)))))))))))))))))))))))))))))))))))))))))))))))))))))))))))))))))))))))))))))))))))))))))))))))))))))))))))))))))))))))))))))))))))), rfl⟩
set_option maxRecDepth 100000 in
theorem tb_648 : (Jvm.Cond.code ({ cls := "WeightedForestLaw", name := "two", desc := "(LWeightedForest;I)I" } : Jvm.MethodName) method_5_code (2 : Nat) (Option.some Jvm.ClassFile.FieldType.int)) ∈ TB := List.mem_filter.mpr ⟨List.mem_append_right _ (show (Jvm.Cond.code ({ cls := "WeightedForestLaw", name := "two", desc := "(LWeightedForest;I)I" } : Jvm.MethodName) method_5_code (2 : Nat) (Option.some Jvm.ClassFile.FieldType.int)) ∈ tables_1 from (List.mem_append_right _ (List.mem_append_right _ (List.mem_append_left _ (List.Mem.tail _ (List.Mem.tail _ (List.Mem.tail _ (List.Mem.tail _ (List.Mem.tail _ (List.Mem.tail _ (List.Mem.tail _ (List.Mem.tail _ (List.Mem.tail _ (List.Mem.tail _ (List.Mem.tail _ (List.Mem.tail _ (List.Mem.tail _ (List.Mem.tail _ (List.Mem.tail _ (List.Mem.tail _ (List.Mem.tail _ (List.Mem.tail _ (List.Mem.tail _ (List.Mem.tail _ (List.Mem.tail _ (List.Mem.tail _ (List.Mem.tail _ (List.Mem.tail _ (List.Mem.tail _ (List.Mem.tail _ (List.Mem.tail _ (List.Mem.tail _ (List.Mem.tail _ (List.Mem.tail _ (List.Mem.tail _ (List.Mem.tail _ (List.Mem.tail _ (List.Mem.tail _ (List.Mem.tail _ (List.Mem.tail _ (List.Mem.tail _ (List.Mem.tail _ (List.Mem.tail _ (List.Mem.tail _ (List.Mem.tail _ (List.Mem.tail _ (List.Mem.tail _ (List.Mem.tail _ (List.Mem.tail _ (List.Mem.tail _ (List.Mem.tail _ (List.Mem.tail _ (List.Mem.tail _ (List.Mem.tail _ (List.Mem.tail _ (List.Mem.tail _ (List.Mem.tail _ (List.Mem.tail _ (List.Mem.tail _ (List.Mem.tail _ (List.Mem.tail _ (List.Mem.tail _ (List.Mem.tail _ (List.Mem.tail _ (List.Mem.tail _ (List.Mem.tail _ (List.Mem.tail _ (List.Mem.tail _ (List.Mem.tail _ (List.Mem.tail _ (List.Mem.tail _ (List.Mem.tail _ (List.Mem.tail _ (List.Mem.tail _ (List.Mem.tail _ (List.Mem.tail _ (List.Mem.tail _ (List.Mem.tail _ (List.Mem.tail _ (List.Mem.tail _ (List.Mem.tail _ (List.Mem.tail _ (List.Mem.tail _ (List.Mem.tail _ (List.Mem.tail _ (List.Mem.tail _ (List.Mem.tail _ (List.Mem.tail _ (List.Mem.tail _ (List.Mem.tail _ (List.Mem.tail _ (List.Mem.tail _ (List.Mem.tail _ (List.Mem.tail _ (List.Mem.tail _ (List.Mem.tail _ (List.Mem.tail _ (List.Mem.tail _ (List.Mem.tail _ (List.Mem.tail _ (List.Mem.tail _ (List.Mem.tail _ (List.Mem.tail _ (List.Mem.tail _ (List.Mem.tail _ (List.Mem.tail _ (List.Mem.tail _ (List.Mem.tail _ (List.Mem.tail _ (List.Mem.tail _ (List.Mem.tail _ (List.Mem.tail _ (List.Mem.tail _ (List.Mem.tail _ (List.Mem.tail _ (List.Mem.tail _ (List.Mem.tail _ (List.Mem.tail _ (List.Mem.tail _ (List.Mem.tail _ (List.Mem.tail _ (List.Mem.tail _ (List.Mem.tail _ (List.Mem.tail _ (List.Mem.tail _ (List.Mem.tail _ (List.Mem.tail _ (List.Mem.tail _ (List.Mem.tail _ (List.Mem.tail _ (List.Mem.tail _ (List.Mem.tail _ (List.Mem.tail _ (List.Mem.tail _ (List.Mem.tail _ (List.Mem.tail _ (List.Mem.tail _ (List.Mem.tail _ (List.Mem.tail _ (List.Mem.tail _ (List.Mem.tail _ (List.Mem.tail _ (List.Mem.head _))))))))))))))))))))))))))))))))))))))))))))))))))))))))))))))))))))))))))))))))))))))))))))))))))))))))))))))))))))))))))))))))))))))))))))))), rfl⟩
set_option maxRecDepth 100000 in
theorem tb_746 : (Jvm.Cond.code ({ cls := "WeightedForestLaw", name := "alike", desc := "(LWeightedForest;LWeightedForest;)Z" } : Jvm.MethodName) method_9_code (4 : Nat) (Option.some Jvm.ClassFile.FieldType.boolean)) ∈ TB := List.mem_filter.mpr ⟨List.mem_append_right _ (show (Jvm.Cond.code ({ cls := "WeightedForestLaw", name := "alike", desc := "(LWeightedForest;LWeightedForest;)Z" } : Jvm.MethodName) method_9_code (4 : Nat) (Option.some Jvm.ClassFile.FieldType.boolean)) ∈ tables_1 from (List.mem_append_right _ (List.mem_append_right _ (List.mem_append_left _ (List.Mem.tail _ (List.Mem.tail _ (List.Mem.tail _ (List.Mem.tail _ (List.Mem.tail _ (List.Mem.tail _ (List.Mem.tail _ (List.Mem.tail _ (List.Mem.tail _ (List.Mem.tail _ (List.Mem.tail _ (List.Mem.tail _ (List.Mem.tail _ (List.Mem.tail _ (List.Mem.tail _ (List.Mem.tail _ (List.Mem.tail _ (List.Mem.tail _ (List.Mem.tail _ (List.Mem.tail _ (List.Mem.tail _ (List.Mem.tail _ (List.Mem.tail _ (List.Mem.tail _ (List.Mem.tail _ (List.Mem.tail _ (List.Mem.tail _ (List.Mem.tail _ (List.Mem.tail _ (List.Mem.tail _ (List.Mem.tail _ (List.Mem.tail _ (List.Mem.tail _ (List.Mem.tail _ (List.Mem.tail _ (List.Mem.tail _ (List.Mem.tail _ (List.Mem.tail _ (List.Mem.tail _ (List.Mem.tail _ (List.Mem.tail _ (List.Mem.tail _ (List.Mem.tail _ (List.Mem.tail _ (List.Mem.tail _ (List.Mem.tail _ (List.Mem.tail _ (List.Mem.tail _ (List.Mem.tail _ (List.Mem.tail _ (List.Mem.tail _ (List.Mem.tail _ (List.Mem.tail _ (List.Mem.tail _ (List.Mem.tail _ (List.Mem.tail _ (List.Mem.tail _ (List.Mem.tail _ (List.Mem.tail _ (List.Mem.tail _ (List.Mem.tail _ (List.Mem.tail _ (List.Mem.tail _ (List.Mem.tail _ (List.Mem.tail _ (List.Mem.tail _ (List.Mem.tail _ (List.Mem.tail _ (List.Mem.tail _ (List.Mem.tail _ (List.Mem.tail _ (List.Mem.tail _ (List.Mem.tail _ (List.Mem.tail _ (List.Mem.tail _ (List.Mem.tail _ (List.Mem.tail _ (List.Mem.tail _ (List.Mem.tail _ (List.Mem.tail _ (List.Mem.tail _ (List.Mem.tail _ (List.Mem.tail _ (List.Mem.tail _ (List.Mem.tail _ (List.Mem.tail _ (List.Mem.tail _ (List.Mem.tail _ (List.Mem.tail _ (List.Mem.tail _ (List.Mem.tail _ (List.Mem.tail _ (List.Mem.tail _ (List.Mem.tail _ (List.Mem.tail _ (List.Mem.tail _ (List.Mem.tail _ (List.Mem.tail _ (List.Mem.tail _ (List.Mem.tail _ (List.Mem.tail _ (List.Mem.tail _ (List.Mem.tail _ (List.Mem.tail _ (List.Mem.tail _ (List.Mem.tail _ (List.Mem.tail _ (List.Mem.tail _ (List.Mem.tail _ (List.Mem.tail _ (List.Mem.tail _ (List.Mem.tail _ (List.Mem.tail _ (List.Mem.tail _ (List.Mem.tail _ (List.Mem.tail _ (List.Mem.tail _ (List.Mem.tail _ (List.Mem.tail _ (List.Mem.tail _ (List.Mem.tail _ (List.Mem.tail _ (List.Mem.tail _ (List.Mem.tail _ (List.Mem.tail _ (List.Mem.tail _ (List.Mem.tail _ (List.Mem.tail _ (List.Mem.tail _ (List.Mem.tail _ (List.Mem.tail _ (List.Mem.tail _ (List.Mem.tail _ (List.Mem.tail _ (List.Mem.tail _ (List.Mem.tail _ (List.Mem.tail _ (List.Mem.tail _ (List.Mem.tail _ (List.Mem.tail _ (List.Mem.tail _ (List.Mem.tail _ (List.Mem.tail _ (List.Mem.tail _ (List.Mem.tail _ (List.Mem.tail _ (List.Mem.tail _ (List.Mem.tail _ (List.Mem.tail _ (List.Mem.tail _ (List.Mem.tail _ (List.Mem.tail _ (List.Mem.tail _ (List.Mem.tail _ (List.Mem.tail _ (List.Mem.tail _ (List.Mem.tail _ (List.Mem.tail _ (List.Mem.tail _ (List.Mem.tail _ (List.Mem.tail _ (List.Mem.tail _ (List.Mem.tail _ (List.Mem.tail _ (List.Mem.tail _ (List.Mem.tail _ (List.Mem.tail _ (List.Mem.tail _ (List.Mem.tail _ (List.Mem.tail _ (List.Mem.tail _ (List.Mem.tail _ (List.Mem.tail _ (List.Mem.tail _ (List.Mem.tail _ (List.Mem.tail _ (List.Mem.tail _ (List.Mem.tail _ (List.Mem.tail _ (List.Mem.tail _ (List.Mem.tail _ (List.Mem.tail _ (List.Mem.tail _ (List.Mem.tail _ (List.Mem.tail _ (List.Mem.tail _ (List.Mem.tail _ (List.Mem.tail _ (List.Mem.tail _ (List.Mem.tail _ (List.Mem.tail _ (List.Mem.tail _ (List.Mem.tail _ (List.Mem.tail _ (List.Mem.tail _ (List.Mem.tail _ (List.Mem.tail _ (List.Mem.tail _ (List.Mem.tail _ (List.Mem.tail _ (List.Mem.tail _ (List.Mem.tail _ (List.Mem.tail _ (List.Mem.tail _ (List.Mem.tail _ (List.Mem.tail _ (List.Mem.tail _ (List.Mem.tail _ (List.Mem.tail _ (List.Mem.tail _ (List.Mem.tail _ (List.Mem.tail _ (List.Mem.tail _ (List.Mem.tail _ (List.Mem.tail _ (List.Mem.tail _ (List.Mem.tail _ (List.Mem.tail _ (List.Mem.tail _ (List.Mem.tail _ (List.Mem.tail _ (List.Mem.tail _ (List.Mem.tail _ (List.Mem.tail _ (List.Mem.tail _ (List.Mem.tail _ (List.Mem.tail _ (List.Mem.tail _ (List.Mem.tail _ (List.Mem.tail _ (List.Mem.tail _ (List.Mem.tail _ (List.Mem.tail _ (List.Mem.tail _ (List.Mem.tail _ (List.Mem.tail _ (List.Mem.head _))))))))))))))))))))))))))))))))))))))))))))))))))))))))))))))))))))))))))))))))))))))))))))))))))))))))))))))))))))))))))))))))))))))))))))))))))))))))))))))))))))))))))))))))))))))))))))))))))))))))))))))))))))))))))))))))))))))))))))))))), rfl⟩
set_option maxRecDepth 100000 in
theorem tb_749 : (Jvm.Cond.code ({ cls := "WeightedForestLaw", name := "now", desc := "(LWeightedForest;)J" } : Jvm.MethodName) method_8_code (5 : Nat) (Option.some Jvm.ClassFile.FieldType.long)) ∈ TB := List.mem_filter.mpr ⟨List.mem_append_right _ (show (Jvm.Cond.code ({ cls := "WeightedForestLaw", name := "now", desc := "(LWeightedForest;)J" } : Jvm.MethodName) method_8_code (5 : Nat) (Option.some Jvm.ClassFile.FieldType.long)) ∈ tables_1 from (List.mem_append_right _ (List.mem_append_right _ (List.mem_append_left _ (List.Mem.tail _ (List.Mem.tail _ (List.Mem.tail _ (List.Mem.tail _ (List.Mem.tail _ (List.Mem.tail _ (List.Mem.tail _ (List.Mem.tail _ (List.Mem.tail _ (List.Mem.tail _ (List.Mem.tail _ (List.Mem.tail _ (List.Mem.tail _ (List.Mem.tail _ (List.Mem.tail _ (List.Mem.tail _ (List.Mem.tail _ (List.Mem.tail _ (List.Mem.tail _ (List.Mem.tail _ (List.Mem.tail _ (List.Mem.tail _ (List.Mem.tail _ (List.Mem.tail _ (List.Mem.tail _ (List.Mem.tail _ (List.Mem.tail _ (List.Mem.tail _ (List.Mem.tail _ (List.Mem.tail _ (List.Mem.tail _ (List.Mem.tail _ (List.Mem.tail _ (List.Mem.tail _ (List.Mem.tail _ (List.Mem.tail _ (List.Mem.tail _ (List.Mem.tail _ (List.Mem.tail _ (List.Mem.tail _ (List.Mem.tail _ (List.Mem.tail _ (List.Mem.tail _ (List.Mem.tail _ (List.Mem.tail _ (List.Mem.tail _ (List.Mem.tail _ (List.Mem.tail _ (List.Mem.tail _ (List.Mem.tail _ (List.Mem.tail _ (List.Mem.tail _ (List.Mem.tail _ (List.Mem.tail _ (List.Mem.tail _ (List.Mem.tail _ (List.Mem.tail _ (List.Mem.tail _ (List.Mem.tail _ (List.Mem.tail _ (List.Mem.tail _ (List.Mem.tail _ (List.Mem.tail _ (List.Mem.tail _ (List.Mem.tail _ (List.Mem.tail _ (List.Mem.tail _ (List.Mem.tail _ (List.Mem.tail _ (List.Mem.tail _ (List.Mem.tail _ (List.Mem.tail _ (List.Mem.tail _ (List.Mem.tail _ (List.Mem.tail _ (List.Mem.tail _ (List.Mem.tail _ (List.Mem.tail _ (List.Mem.tail _ (List.Mem.tail _ (List.Mem.tail _ (List.Mem.tail _ (List.Mem.tail _ (List.Mem.tail _ (List.Mem.tail _ (List.Mem.tail _ (List.Mem.tail _ (List.Mem.tail _ (List.Mem.tail _ (List.Mem.tail _ (List.Mem.tail _ (List.Mem.tail _ (List.Mem.tail _ (List.Mem.tail _ (List.Mem.tail _ (List.Mem.tail _ (List.Mem.tail _ (List.Mem.tail _ (List.Mem.tail _ (List.Mem.tail _ (List.Mem.tail _ (List.Mem.tail _ (List.Mem.tail _ (List.Mem.tail _ (List.Mem.tail _ (List.Mem.tail _ (List.Mem.tail _ (List.Mem.tail _ (List.Mem.tail _ (List.Mem.tail _ (List.Mem.tail _ (List.Mem.tail _ (List.Mem.tail _ (List.Mem.tail _ (List.Mem.tail _ (List.Mem.tail _ (List.Mem.tail _ (List.Mem.tail _ (List.Mem.tail _ (List.Mem.tail _ (List.Mem.tail _ (List.Mem.tail _ (List.Mem.tail _ (List.Mem.tail _ (List.Mem.tail _ (List.Mem.tail _ (List.Mem.tail _ (List.Mem.tail _ (List.Mem.tail _ (List.Mem.tail _ (List.Mem.tail _ (List.Mem.tail _ (List.Mem.tail _ (List.Mem.tail _ (List.Mem.tail _ (List.Mem.tail _ (List.Mem.tail _ (List.Mem.tail _ (List.Mem.tail _ (List.Mem.tail _ (List.Mem.tail _ (List.Mem.tail _ (List.Mem.tail _ (List.Mem.tail _ (List.Mem.tail _ (List.Mem.tail _ (List.Mem.tail _ (List.Mem.tail _ (List.Mem.tail _ (List.Mem.tail _ (List.Mem.tail _ (List.Mem.tail _ (List.Mem.tail _ (List.Mem.tail _ (List.Mem.tail _ (List.Mem.tail _ (List.Mem.tail _ (List.Mem.tail _ (List.Mem.tail _ (List.Mem.tail _ (List.Mem.tail _ (List.Mem.tail _ (List.Mem.tail _ (List.Mem.tail _ (List.Mem.tail _ (List.Mem.tail _ (List.Mem.tail _ (List.Mem.tail _ (List.Mem.tail _ (List.Mem.tail _ (List.Mem.tail _ (List.Mem.tail _ (List.Mem.tail _ (List.Mem.tail _ (List.Mem.tail _ (List.Mem.tail _ (List.Mem.tail _ (List.Mem.tail _ (List.Mem.tail _ (List.Mem.tail _ (List.Mem.tail _ (List.Mem.tail _ (List.Mem.tail _ (List.Mem.tail _ (List.Mem.tail _ (List.Mem.tail _ (List.Mem.tail _ (List.Mem.tail _ (List.Mem.tail _ (List.Mem.tail _ (List.Mem.tail _ (List.Mem.tail _ (List.Mem.tail _ (List.Mem.tail _ (List.Mem.tail _ (List.Mem.tail _ (List.Mem.tail _ (List.Mem.tail _ (List.Mem.tail _ (List.Mem.tail _ (List.Mem.tail _ (List.Mem.tail _ (List.Mem.tail _ (List.Mem.tail _ (List.Mem.tail _ (List.Mem.tail _ (List.Mem.tail _ (List.Mem.tail _ (List.Mem.tail _ (List.Mem.tail _ (List.Mem.tail _ (List.Mem.tail _ (List.Mem.tail _ (List.Mem.tail _ (List.Mem.tail _ (List.Mem.tail _ (List.Mem.tail _ (List.Mem.tail _ (List.Mem.tail _ (List.Mem.tail _ (List.Mem.tail _ (List.Mem.tail _ (List.Mem.tail _ (List.Mem.tail _ (List.Mem.tail _ (List.Mem.tail _ (List.Mem.tail _ (List.Mem.tail _ (List.Mem.tail _ (List.Mem.tail _ (List.Mem.tail _ (List.Mem.tail _ (List.Mem.tail _ (List.Mem.tail _ (List.Mem.tail _ (List.Mem.tail _ (List.Mem.tail _ (List.Mem.tail _ (List.Mem.tail _ (List.Mem.head _)))))))))))))))))))))))))))))))))))))))))))))))))))))))))))))))))))))))))))))))))))))))))))))))))))))))))))))))))))))))))))))))))))))))))))))))))))))))))))))))))))))))))))))))))))))))))))))))))))))))))))))))))))))))))))))))))))))))))))))))))))), rfl⟩
set_option maxRecDepth 100000 in
theorem tb_761 : (Jvm.Cond.code ({ cls := "WeightedForestLaw", name := "built", desc := "(LWeightedForest;I)Z" } : Jvm.MethodName) method_10_code (23 : Nat) (Option.some Jvm.ClassFile.FieldType.boolean)) ∈ TB := List.mem_filter.mpr ⟨List.mem_append_right _ (show (Jvm.Cond.code ({ cls := "WeightedForestLaw", name := "built", desc := "(LWeightedForest;I)Z" } : Jvm.MethodName) method_10_code (23 : Nat) (Option.some Jvm.ClassFile.FieldType.boolean)) ∈ tables_1 from (List.mem_append_right _ (List.mem_append_right _ (List.mem_append_right _ (List.Mem.tail _ (List.Mem.tail _ (List.Mem.tail _ (List.Mem.tail _ (List.Mem.tail _ (List.Mem.tail _ (List.Mem.tail _ (List.Mem.tail _ (List.Mem.tail _ (List.Mem.tail _ (List.Mem.tail _ (List.Mem.head _)))))))))))))))), rfl⟩
set_option maxRecDepth 100000 in
theorem tb_768 : (Jvm.Cond.code ({ cls := "WeightedForestLaw", name := "ahead", desc := "(LWeightedForest;I)Z" } : Jvm.MethodName) method_11_code (15 : Nat) (Option.some Jvm.ClassFile.FieldType.boolean)) ∈ TB := List.mem_filter.mpr ⟨List.mem_append_right _ (show (Jvm.Cond.code ({ cls := "WeightedForestLaw", name := "ahead", desc := "(LWeightedForest;I)Z" } : Jvm.MethodName) method_11_code (15 : Nat) (Option.some Jvm.ClassFile.FieldType.boolean)) ∈ tables_1 from (List.mem_append_right _ (List.mem_append_right _ (List.mem_append_right _ (List.Mem.tail _ (List.Mem.tail _ (List.Mem.tail _ (List.Mem.tail _ (List.Mem.tail _ (List.Mem.tail _ (List.Mem.tail _ (List.Mem.tail _ (List.Mem.tail _ (List.Mem.tail _ (List.Mem.tail _ (List.Mem.tail _ (List.Mem.tail _ (List.Mem.tail _ (List.Mem.tail _ (List.Mem.tail _ (List.Mem.tail _ (List.Mem.tail _ (List.Mem.head _))))))))))))))))))))))), rfl⟩
end
section
/-! the cells' facts -/
def Mn (G : Gx) : Prop := gK G = 327 ∧ ∀ j, gO G j = none
def isF (f : Nat) : Bool := f == 1 || (f == 30 || (f == 296 || (f == 311 || (decide (81 ≤ f) && (decide (f < 291) && ((f - 81) % 15 == 0))))))
def Fo (G : Gx) (f : Nat) : Prop := isF f = true ∧ f + 14 < gK G ∧ ∀ i, i < 15 → gO G (f + i) = none
def Sv (G : Gx) (s : Nat) : Prop := (s = 16 ∨ s = 45) ∧ Mn G
def Ia (G : Gx) (a n : Nat) : Prop := a < gK G ∧ ∀ r, cellR G a r = rI (gC G) n r
theorem vp_lt {i : Int32} {n : Nat} (h : vp_in i n) : i.toNatClampNeg < n := Nat.not_le.mp fun q => h (Or.inr q)
theorem isF_iff {f : Nat} (hf : isF f = true) : f = 1 ∨ f = 30 ∨ f = 296 ∨ f = 311 ∨ (81 ≤ f ∧ f < 291 ∧ (f - 81) % 15 = 0) := by
  unfold isF at hf
  simpa using hf
theorem cellAt_F {cs : ClassId × ClassId × ClassId × ClassId} {ad : Nat → Nat} {f i : Nat} {r : Nat → Int32} (hf : isF f = true) (hi : i < 15) : cellAt cs ad (f + i) r = cF cs ad f i r := by
  unfold cellAt
  rcases isF_iff hf with rfl | rfl | rfl | rfl | ⟨h1, h2, h3⟩
  · rw [if_neg (by omega), if_pos (by omega), show 1 + i - 1 = i by omega]
  · rw [if_neg (by omega), if_neg (by omega), if_neg (by omega), if_pos (by omega), show 30 + i - 30 = i by omega]
  · rw [if_neg (by omega), if_neg (by omega), if_neg (by omega), if_neg (by omega), if_neg (by omega), if_neg (by omega), if_neg (by omega), if_neg (by omega), if_neg (by omega), if_pos (by omega), show 296 + 15 * ((296 + i - 296) / 15) = 296 by omega, show (296 + i - 296) % 15 = i by omega]
  · rw [if_neg (by omega), if_neg (by omega), if_neg (by omega), if_neg (by omega), if_neg (by omega), if_neg (by omega), if_neg (by omega), if_neg (by omega), if_neg (by omega), if_pos (by omega), show 296 + 15 * ((311 + i - 296) / 15) = 311 by omega, show (311 + i - 296) % 15 = i by omega]
  · rw [if_neg (by omega), if_neg (by omega), if_neg (by omega), if_neg (by omega), if_neg (by omega), if_neg (by omega), if_neg (by omega), if_pos (by omega), show 81 + 15 * ((f + i - 81) / 15) = f by omega, show (f + i - 81) % 15 = i by omega]
theorem Fo_K {G : Gx} {f i : Nat} (h : Fo G f) (hi : i < 15) : f + i < gK G := by have := h.2.1; omega
theorem Fo_c {G : Gx} {f i : Nat} (h : Fo G f) (hi : i < 15) (r : Nat → Int32) : cellR G (f + i) r = cF (gC G) (gA G) f i r := by
  unfold cellR
  rw [h.2.2 i hi]
  exact cellAt_F h.1 hi
theorem Fo_K0 {G : Gx} {f : Nat} (h : Fo G f) : f < gK G := Fo_K (i := 0) h (by decide)
theorem Fo_c0 {G : Gx} {f : Nat} (h : Fo G f) (r : Nat → Int32) : cellR G f r = .inr (1, [.int (r 0), .ref (gA G (f + 1)), .ref (gA G (f + 2))]) := Fo_c (i := 0) h (by decide) r
theorem Fo_c1 {G : Gx} {f : Nat} (h : Fo G f) (r : Nat → Int32) : cellR G (f + 1) r = rI (gC G) 12 r := Fo_c (i := 1) h (by decide) r
theorem Fo_c2 {G : Gx} {f : Nat} (h : Fo G f) (r : Nat → Int32) : cellR G (f + 2) r = rR (gC G) 12 (fun k => if k < 12 then some (gA G (f + 3 + k)) else none) := Fo_c (i := 2) h (by decide) r
theorem Fo_K3 {G : Gx} {f k : Nat} (h : Fo G f) (hk : k < 12) : f + 3 + k < gK G := by have := h.2.1; omega
theorem Fo_c3 {G : Gx} {f k : Nat} (h : Fo G f) (hk : k < 12) (r : Nat → Int32) : cellR G (f + 3 + k) r = rI (gC G) 12 r := by
  rw [show f + 3 + k = f + (3 + k) by omega, Fo_c h (by omega)]
  unfold cF
  rw [if_neg (by omega), if_neg (by omega)]
theorem Fo_of {G : Gx} {f : Nat} (h : Mn G) (hf : isF f = true) : Fo G f := ⟨hf, by rw [h.1]; rcases isF_iff hf with rfl | rfl | rfl | rfl | ⟨h1, h2, h3⟩ <;> omega, fun i _ => h.2 _⟩
theorem Fo_hist {G : Gx} {k : Nat} (h : Mn G) (hk : k < 14) : Fo G (81 + 15 * k) := Fo_of h (by unfold isF; simp only [Bool.or_eq_true, Bool.and_eq_true, decide_eq_true_eq, beq_iff_eq]; omega)
theorem Fo_slot {G : Gx} {k : Nat} (h : Mn G) (hk : k < 2) : Fo G (296 + 15 * k) := Fo_of h (by unfold isF; simp only [Bool.or_eq_true, Bool.and_eq_true, decide_eq_true_eq, beq_iff_eq]; omega)
theorem mK {G : Gx} {j : Nat} (h : Mn G) (hj : j < 327) : j < gK G := by rw [h.1]; exact hj
theorem mC {G : Gx} (h : Mn G) (j : Nat) (r : Nat → Int32) : cellR G j r = cellAt (gC G) (gA G) j r := by
  unfold cellR
  rw [h.2 j]
theorem Sv_K {G : Gx} {s i : Nat} (h : Sv G s) (hi : i < 14) : s + i < gK G := mK h.2 (by rcases h.1 with rfl | rfl <;> omega)
theorem Sv_c {G : Gx} {s i : Nat} (h : Sv G s) (hi : i < 14) (r : Nat → Int32) : cellR G (s + i) r = cS (gC G) (gA G) (s - 15) s i r := by
  rw [mC h.2]
  unfold cellAt
  rcases h.1 with rfl | rfl
  · rw [if_neg (by omega), if_neg (by omega), if_pos (by omega), show 16 + i - 16 = i by omega]
  · rw [if_neg (by omega), if_neg (by omega), if_neg (by omega), if_neg (by omega), if_pos (by omega), show 45 + i - 45 = i by omega]
theorem Sv_K0 {G : Gx} {s : Nat} (h : Sv G s) : s < gK G := Sv_K (i := 0) h (by decide)
theorem Sv_c0 {G : Gx} {s : Nat} (h : Sv G s) (r : Nat → Int32) : cellR G s r = .inr (5, [.ref (gA G (s - 15)), .int (r 1), .ref (gA G (s + 1))]) := Sv_c (i := 0) h (by decide) r
theorem Sv_c1 {G : Gx} {s : Nat} (h : Sv G s) (r : Nat → Int32) : cellR G (s + 1) r = rR (gC G) 12 (fun k => if k < 12 then some (gA G (s + 2 + k)) else none) := Sv_c (i := 1) h (by decide) r
theorem Sv_K3 {G : Gx} {s k : Nat} (h : Sv G s) (hk : k < 12) : s + 2 + k < gK G := by rw [Nat.add_assoc]; exact Sv_K h (by omega)
theorem Sv_c3 {G : Gx} {s k : Nat} (h : Sv G s) (hk : k < 12) (r : Nat → Int32) : cellR G (s + 2 + k) r = rI (gC G) 12 r := by
  rw [show s + 2 + k = s + (2 + k) by omega, Sv_c h (by omega)]
  unfold cS
  rw [if_neg (by omega), if_neg (by omega)]
theorem Sv_Fo {G : Gx} {s : Nat} (h : Sv G s) : Fo G (s - 15) := Fo_of h.2 (by rcases h.1 with rfl | rfl <;> decide)
theorem ro_K {G : Gx} {k : Nat} (h : Mn G) (hk : k < 12) : 64 + k < gK G := mK h (by omega)
theorem ro_c {G : Gx} {k : Nat} (h : Mn G) (hk : k < 12) (r : Nat → Int32) : cellR G (64 + k) r = rI (gC G) 12 r := by
  rw [mC h]
  unfold cellAt cC
  rw [if_neg (by omega), if_neg (by omega), if_neg (by omega), if_neg (by omega), if_neg (by omega), if_pos (by omega), if_neg (by omega), if_neg (by omega), if_neg (by omega), if_neg (by omega)]
theorem mc_0 {G : Gx} (h : Mn G) (r : Nat → Int32) : cellR G 0 r = .inr (6, [.ref (gA G 1), .ref (gA G 16), .ref (gA G 30), .ref (gA G 45), .ref (gA G 59), .ref (gA G 76), .ref (gA G 79), .ref (gA G 291), .ref (gA G 295), .ref (gA G 326)]) := (mC h 0 r).trans rfl
theorem mc_59 {G : Gx} (h : Mn G) (r : Nat → Int32) : cellR G 59 r = .inr (0, [.int (r 0), .int (r 1), .int (r 2), .ref (gA G 60), .ref (gA G 61), .ref (gA G 62), .ref (gA G 63)]) := (mC h 59 r).trans rfl
theorem mc_60 {G : Gx} (h : Mn G) (r : Nat → Int32) : cellR G 60 r = rZ (gC G) 12 r := (mC h 60 r).trans rfl
theorem mc_61 {G : Gx} (h : Mn G) (r : Nat → Int32) : cellR G 61 r = rZ (gC G) 12 r := (mC h 61 r).trans rfl
theorem mc_62 {G : Gx} (h : Mn G) (r : Nat → Int32) : cellR G 62 r = rI (gC G) 12 r := (mC h 62 r).trans rfl
theorem mc_63 {G : Gx} (h : Mn G) (r : Nat → Int32) : cellR G 63 r = rR (gC G) 12 (fun k => if k < 12 then some (gA G (64 + k)) else none) := (mC h 63 r).trans rfl
theorem mc_76 {G : Gx} (h : Mn G) (r : Nat → Int32) : cellR G 76 r = .inr (4, [.int (r 0), .ref (gA G 77), .int (r 2), .ref (gA G 78)]) := (mC h 76 r).trans rfl
theorem mc_77 {G : Gx} (h : Mn G) (r : Nat → Int32) : cellR G 77 r = rI (gC G) 80 r := (mC h 77 r).trans rfl
theorem mc_78 {G : Gx} (h : Mn G) (r : Nat → Int32) : cellR G 78 r = rI (gC G) 12 r := (mC h 78 r).trans rfl
theorem mc_79 {G : Gx} (h : Mn G) (r : Nat → Int32) : cellR G 79 r = .inr (2, [.ref (gA G 80), .int (r 1), .int (r 2)]) := (mC h 79 r).trans rfl
theorem mc_80 {G : Gx} (h : Mn G) (r : Nat → Int32) : cellR G 80 r = rF (gC G) 14 (fun k => if k < 14 then some (gA G (81 + 15 * k)) else none) := (mC h 80 r).trans rfl
theorem mc_291 {G : Gx} (h : Mn G) (r : Nat → Int32) : cellR G 291 r = .inr (3, [.ref (gA G 292), .ref (gA G 293), .ref (gA G 294), .int (r 3), .int (r 4)]) := (mC h 291 r).trans rfl
theorem mc_292 {G : Gx} (h : Mn G) (r : Nat → Int32) : cellR G 292 r = rI (gC G) 6 r := (mC h 292 r).trans rfl
theorem mc_293 {G : Gx} (h : Mn G) (r : Nat → Int32) : cellR G 293 r = rI (gC G) 6 r := (mC h 293 r).trans rfl
theorem mc_294 {G : Gx} (h : Mn G) (r : Nat → Int32) : cellR G 294 r = rI (gC G) 6 r := (mC h 294 r).trans rfl
theorem mc_295 {G : Gx} (h : Mn G) (r : Nat → Int32) : cellR G 295 r = rF (gC G) 2 (fun k => if k < 2 then some (gA G (296 + 15 * k)) else none) := (mC h 295 r).trans rfl
theorem mc_326 {G : Gx} (h : Mn G) (r : Nat → Int32) : cellR G 326 r = rZ (gC G) 2 r := (mC h 326 r).trans rfl
def M2 (G : Gx) : Prop := gK G = 654 ∧ ∀ j, gO G j = none
theorem mC2 {G : Gx} (h : M2 G) (j : Nat) (r : Nat → Int32) : cellR G j r = cellAt (gC G) (gA G) j r := by
  unfold cellR
  rw [h.2 j]
theorem mK2 {G : Gx} {j : Nat} (h : M2 G) (hj : j < 654) : j < gK G := by rw [h.1]; exact hj
theorem m2_0 {G : Gx} (h : M2 G) (r : Nat → Int32) : cellR G 0 r = .inr (6, [.ref (gA G 1), .ref (gA G 16), .ref (gA G 30), .ref (gA G 45), .ref (gA G 59), .ref (gA G 76), .ref (gA G 79), .ref (gA G 291), .ref (gA G 295), .ref (gA G 326)]) := (mC2 h 0 r).trans rfl
theorem m2_327 {G : Gx} (h : M2 G) (r : Nat → Int32) : cellR G 327 r = .inr (6, [.ref (gA G 328), .ref (gA G 343), .ref (gA G 357), .ref (gA G 372), .ref (gA G 386), .ref (gA G 403), .ref (gA G 406), .ref (gA G 618), .ref (gA G 622), .ref (gA G 653)]) := (mC2 h 327 r).trans rfl
/-! the methods: name, code, locals, answer, room; what the tables say of each -/
abbrev M_J7_fill_53178 : MTy := (yJ7_fill_53178, cJ7_fill_53178, 4, none, { frames := 0, cells := 0, slots := 0, locals := 0 })
theorem ok_J7_fill_53178 : OkS M_J7_fill_53178 2 := ⟨tb_72, tb_34, tb_73, by decide, by decide, by decide +kernel⟩
abbrev M_L_act : MTy := (yL_act, cL_act, 3, (some .int), { frames := 7, cells := 0, slots := 0, locals := 165 })
theorem ok_L_act : OkS M_L_act 3 := ⟨tb_633, tb_30, tb_634, by decide, by decide, by decide +kernel⟩
abbrev M_L_ahead : MTy := (yL_ahead, cL_ahead, 15, (some .boolean), { frames := 7, cells := 0, slots := 0, locals := 163 })
theorem ok_L_ahead : OkS M_L_ahead 2 := ⟨tb_767, tb_30, tb_768, by decide, by decide, by decide +kernel⟩
abbrev M_L_alike : MTy := (yL_alike, cL_alike, 4, (some .boolean), { frames := 7, cells := 0, slots := 0, locals := 163 })
theorem ok_L_alike : OkS M_L_alike 2 := ⟨tb_745, tb_30, tb_746, by decide, by decide, by decide +kernel⟩
abbrev M_L_built : MTy := (yL_built, cL_built, 23, (some .boolean), { frames := 7, cells := 0, slots := 0, locals := 163 })
theorem ok_L_built : OkS M_L_built 2 := ⟨tb_760, tb_30, tb_761, by decide, by decide, by decide +kernel⟩
abbrev M_L_cell : MTy := (yL_cell, cL_cell, 2, (some .int), { frames := 0, cells := 0, slots := 0, locals := 0 })
theorem ok_L_cell : OkS M_L_cell 2 := ⟨tb_224, tb_30, tb_225, by decide, by decide, by decide +kernel⟩
abbrev M_L_errors : MTy := (yL_errors, cL_errors, 3, (some .boolean), { frames := 7, cells := 0, slots := 0, locals := 163 })
theorem ok_L_errors : OkS M_L_errors 1 := ⟨tb_229, tb_30, tb_230, by decide, by decide, by decide +kernel⟩
abbrev M_L_load : MTy := (yL_load, cL_load, 8, (some .int), { frames := 6, cells := 0, slots := 0, locals := 138 })
theorem ok_L_load : OkS M_L_load 3 := ⟨tb_636, tb_30, tb_637, by decide, by decide, by decide +kernel⟩
abbrev M_L_now : MTy := (yL_now, cL_now, 5, (some .long), { frames := 4, cells := 0, slots := 0, locals := 88 })
theorem ok_L_now : OkS M_L_now 1 := ⟨tb_748, tb_30, tb_749, by decide, by decide, by decide +kernel⟩
abbrev M_L_two : MTy := (yL_two, cL_two, 2, (some .int), { frames := 2, cells := 0, slots := 0, locals := 42 })
theorem ok_L_two : OkS M_L_two 2 := ⟨tb_647, tb_30, tb_648, by decide, by decide, by decide +kernel⟩
abbrev M_L_vertices : MTy := (yL_vertices, cL_vertices, 2, (some .int), { frames := 3, cells := 0, slots := 0, locals := 63 })
theorem ok_L_vertices : OkS M_L_vertices 1 := ⟨tb_232, tb_30, tb_233, by decide, by decide, by decide +kernel⟩
abbrev M_X0_bypass : MTy := (yX0_bypass, cX0_bypass, 4, none, { frames := 1, cells := 0, slots := 0, locals := 23 })
theorem ok_X0_bypass : OkV M_X0_bypass RX0 1 := ⟨tb_497, tb_13, tb_36, tb_498, rfl, by decide, by decide, by decide +kernel⟩
abbrev M_X0_compress : MTy := (yX0_compress, cX0_compress, 2, none, { frames := 2, cells := 0, slots := 0, locals := 46 })
theorem ok_X0_compress : OkV M_X0_compress RX0 0 := ⟨tb_488, tb_11, tb_36, tb_489, rfl, by decide, by decide, by decide +kernel⟩
abbrev M_X0_contract : MTy := (yX0_contract, cX0_contract, 3, none, { frames := 3, cells := 0, slots := 0, locals := 67 })
theorem ok_X0_contract : OkV M_X0_contract RX0 2 := ⟨tb_449, tb_450, tb_36, tb_451, rfl, by decide, by decide, by decide +kernel⟩
abbrev M_X0_copyEdges : MTy := (yX0_copyEdges, cX0_copyEdges, 4, none, { frames := 2, cells := 0, slots := 0, locals := 44 })
theorem ok_X0_copyEdges : OkV M_X0_copyEdges RX0 1 := ⟨tb_454, tb_3, tb_36, tb_455, rfl, by decide, by decide, by decide +kernel⟩
abbrev M_X0_degreeOf : MTy := (yX0_degreeOf, cX0_degreeOf, 4, (some .int), { frames := 0, cells := 0, slots := 0, locals := 0 })
theorem ok_X0_degreeOf : OkV M_X0_degreeOf RX0 1 := ⟨tb_484, tb_10, tb_36, tb_485, rfl, by decide, by decide, by decide +kernel⟩
abbrev M_X0_gatherNeighbours : MTy := (yX0_gatherNeighbours, cX0_gatherNeighbours, 3, none, { frames := 0, cells := 0, slots := 0, locals := 0 })
theorem ok_X0_gatherNeighbours : OkV M_X0_gatherNeighbours RX0 0 := ⟨tb_468, tb_6, tb_36, tb_469, rfl, by decide, by decide, by decide +kernel⟩
abbrev M_X0_gatherTree : MTy := (yX0_gatherTree, cX0_gatherTree, 3, none, { frames := 1, cells := 0, slots := 0, locals := 22 })
theorem ok_X0_gatherTree : OkV M_X0_gatherTree RX0 1 := ⟨tb_460, tb_4, tb_36, tb_461, rfl, by decide, by decide, by decide +kernel⟩
abbrev M_X0_init : MTy := (yX0_init, cX0_init, 1, none, { frames := 1, cells := 16, slots := 192, locals := 20 })
theorem ok_X0_init : OkI M_X0_init 0 := ⟨tb_105, tb_36, tb_106, rfl, rfl, by decide, by decide, by decide +kernel⟩
abbrev M_X0_isVertex : MTy := (yX0_isVertex, cX0_isVertex, 2, (some .boolean), { frames := 0, cells := 0, slots := 0, locals := 0 })
theorem ok_X0_isVertex : OkV M_X0_isVertex RX0 1 := ⟨tb_464, tb_5, tb_36, tb_465, rfl, by decide, by decide, by decide +kernel⟩
abbrev M_X0_lastVertex : MTy := (yX0_lastVertex, cX0_lastVertex, 2, (some .int), { frames := 0, cells := 0, slots := 0, locals := 0 })
theorem ok_X0_lastVertex : OkV M_X0_lastVertex RX0 0 := ⟨tb_520, tb_521, tb_36, tb_522, rfl, by decide, by decide, by decide +kernel⟩
abbrev M_X0_makeEdgesOld : MTy := (yX0_makeEdgesOld, cX0_makeEdgesOld, 3, none, { frames := 1, cells := 0, slots := 0, locals := 21 })
theorem ok_X0_makeEdgesOld : OkV M_X0_makeEdgesOld RX0 0 := ⟨tb_492, tb_12, tb_36, tb_493, rfl, by decide, by decide, by decide +kernel⟩
abbrev M_X0_neighbourAfter : MTy := (yX0_neighbourAfter, cX0_neighbourAfter, 4, (some .int), { frames := 0, cells := 0, slots := 0, locals := 0 })
theorem ok_X0_neighbourAfter : OkV M_X0_neighbourAfter RX0 2 := ⟨tb_501, tb_14, tb_36, tb_502, rfl, by decide, by decide, by decide +kernel⟩
abbrev M_X0_rake : MTy := (yX0_rake, cX0_rake, 2, none, { frames := 2, cells := 0, slots := 0, locals := 43 })
theorem ok_X0_rake : OkV M_X0_rake RX0 0 := ⟨tb_472, tb_7, tb_36, tb_473, rfl, by decide, by decide, by decide +kernel⟩
abbrev M_X0_remove : MTy := (yX0_remove, cX0_remove, 3, none, { frames := 0, cells := 0, slots := 0, locals := 0 })
theorem ok_X0_remove : OkV M_X0_remove RX0 1 := ⟨tb_480, tb_9, tb_36, tb_481, rfl, by decide, by decide, by decide +kernel⟩
abbrev M_X0_removeGreatest : MTy := (yX0_removeGreatest, cX0_removeGreatest, 2, none, { frames := 1, cells := 0, slots := 0, locals := 22 })
theorem ok_X0_removeGreatest : OkV M_X0_removeGreatest RX0 0 := ⟨tb_476, tb_8, tb_36, tb_477, rfl, by decide, by decide, by decide +kernel⟩
abbrev M_X0_roundCount : MTy := (yX0_roundCount, cX0_roundCount, 1, (some .int), { frames := 0, cells := 0, slots := 0, locals := 0 })
theorem ok_X0_roundCount : OkV M_X0_roundCount RX0 0 := ⟨tb_504, tb_505, tb_36, tb_506, rfl, by decide, by decide, by decide +kernel⟩
abbrev M_X0_roundOf : MTy := (yX0_roundOf, cX0_roundOf, 2, (some .int), { frames := 1, cells := 0, slots := 0, locals := 21 })
theorem ok_X0_roundOf : OkV M_X0_roundOf RX0 1 := ⟨tb_512, tb_513, tb_36, tb_514, rfl, by decide, by decide, by decide +kernel⟩
abbrev M_X1_become : MTy := (yX1_become, cX1_become, 3, none, { frames := 1, cells := 0, slots := 0, locals := 26 })
theorem ok_X1_become : OkV M_X1_become RX1 1 := ⟨tb_321, tb_322, tb_32, tb_323, rfl, by decide, by decide, by decide +kernel⟩
abbrev M_X1_edgeBetween : MTy := (yX1_edgeBetween, cX1_edgeBetween, 3, (some .int), { frames := 1, cells := 0, slots := 0, locals := 22 })
theorem ok_X1_edgeBetween : OkV M_X1_edgeBetween RX1 2 := ⟨tb_272, tb_273, tb_32, tb_274, rfl, by decide, by decide, by decide +kernel⟩
abbrev M_X1_edgeCount : MTy := (yX1_edgeCount, cX1_edgeCount, 4, (some .int), { frames := 3, cells := 0, slots := 0, locals := 66 })
theorem ok_X1_edgeCount : OkV M_X1_edgeCount RX1 0 := ⟨tb_333, tb_334, tb_32, tb_335, rfl, by decide, by decide, by decide +kernel⟩
abbrev M_X1_hasEdge : MTy := (yX1_hasEdge, cX1_hasEdge, 3, (some .boolean), { frames := 2, cells := 0, slots := 0, locals := 44 })
theorem ok_X1_hasEdge : OkV M_X1_hasEdge RX1 2 := ⟨tb_268, tb_269, tb_32, tb_270, rfl, by decide, by decide, by decide +kernel⟩
abbrev M_X1_hasVertex : MTy := (yX1_hasVertex, cX1_hasVertex, 2, (some .boolean), { frames := 0, cells := 0, slots := 0, locals := 0 })
theorem ok_X1_hasVertex : OkV M_X1_hasVertex RX1 1 := ⟨tb_239, tb_240, tb_32, tb_241, rfl, by decide, by decide, by decide +kernel⟩
abbrev M_X1_hasVertices : MTy := (yX1_hasVertices, cX1_hasVertices, 3, (some .boolean), { frames := 0, cells := 0, slots := 0, locals := 0 })
theorem ok_X1_hasVertices : OkV M_X1_hasVertices RX1 2 := ⟨tb_264, tb_265, tb_32, tb_266, rfl, by decide, by decide, by decide +kernel⟩
abbrev M_X1_init : MTy := (yX1_init, cX1_init, 1, none, { frames := 2, cells := 14, slots := 168, locals := 45 })
theorem ok_X1_init : OkI M_X1_init 0 := ⟨tb_56, tb_32, tb_57, rfl, rfl, by decide, by decide, by decide +kernel⟩
abbrev M_X1_putEdge : MTy := (yX1_putEdge, cX1_putEdge, 4, none, { frames := 1, cells := 0, slots := 0, locals := 22 })
theorem ok_X1_putEdge : OkV M_X1_putEdge RX1 3 := ⟨tb_329, tb_330, tb_32, tb_331, rfl, by decide, by decide, by decide +kernel⟩
abbrev M_X1_putWeight : MTy := (yX1_putWeight, cX1_putWeight, 3, none, { frames := 1, cells := 0, slots := 0, locals := 21 })
theorem ok_X1_putWeight : OkV M_X1_putWeight RX1 2 := ⟨tb_353, tb_354, tb_32, tb_355, rfl, by decide, by decide, by decide +kernel⟩
abbrev M_X1_reset : MTy := (yX1_reset, cX1_reset, 3, none, { frames := 1, cells := 0, slots := 0, locals := 23 })
theorem ok_X1_reset : OkV M_X1_reset RX1 1 := ⟨tb_62, tb_63, tb_32, tb_64, rfl, by decide, by decide, by decide +kernel⟩
abbrev M_X1_vertices : MTy := (yX1_vertices, cX1_vertices, 1, (some .int), { frames := 0, cells := 0, slots := 0, locals := 0 })
theorem ok_X1_vertices : OkV M_X1_vertices RX1 0 := ⟨tb_286, tb_287, tb_32, tb_288, rfl, by decide, by decide, by decide +kernel⟩
abbrev M_X1_weightOf : MTy := (yX1_weightOf, cX1_weightOf, 2, (some .int), { frames := 1, cells := 0, slots := 0, locals := 21 })
theorem ok_X1_weightOf : OkV M_X1_weightOf RX1 1 := ⟨tb_243, tb_244, tb_32, tb_245, rfl, by decide, by decide, by decide +kernel⟩
abbrev M_X2_forget : MTy := (yX2_forget, cX2_forget, 1, none, { frames := 0, cells := 0, slots := 0, locals := 0 })
theorem ok_X2_forget : OkV M_X2_forget RX2 0 := ⟨tb_629, tb_630, tb_38, tb_631, rfl, by decide, by decide, by decide +kernel⟩
abbrev M_X2_init : MTy := (yX2_init, cX2_init, 2, none, { frames := 3, cells := 211, slots := 2408, locals := 65 })
theorem ok_X2_init : OkI M_X2_init 0 := ⟨tb_154, tb_38, tb_155, rfl, rfl, by decide, by decide, by decide +kernel⟩
abbrev M_X2_remember : MTy := (yX2_remember, cX2_remember, 2, none, { frames := 2, cells := 0, slots := 0, locals := 48 })
theorem ok_X2_remember : OkV M_X2_remember RX2 1 := ⟨tb_317, tb_318, tb_38, tb_319, rfl, by decide, by decide, by decide +kernel⟩
abbrev M_X2_size : MTy := (yX2_size, cX2_size, 1, (some .int), { frames := 0, cells := 0, slots := 0, locals := 0 })
theorem ok_X2_size : OkV M_X2_size RX2 0 := ⟨tb_740, tb_741, tb_38, tb_742, rfl, by decide, by decide, by decide +kernel⟩
abbrev M_X2_takeBack : MTy := (yX2_takeBack, cX2_takeBack, 2, (some .boolean), { frames := 2, cells := 0, slots := 0, locals := 48 })
theorem ok_X2_takeBack : OkV M_X2_takeBack RX2 1 := ⟨tb_736, tb_737, tb_38, tb_738, rfl, by decide, by decide, by decide +kernel⟩
abbrev M_X3_countWeights : MTy := (yX3_countWeights, cX3_countWeights, 9, (some .int), { frames := 3, cells := 0, slots := 0, locals := 71 })
theorem ok_X3_countWeights : OkV M_X3_countWeights RX3 3 := ⟨tb_568, tb_569, tb_39, tb_570, rfl, by decide, by decide, by decide +kernel⟩
abbrev M_X3_init : MTy := (yX3_init, cX3_init, 1, none, { frames := 1, cells := 3, slots := 18, locals := 20 })
theorem ok_X3_init : OkI M_X3_init 0 := ⟨tb_173, tb_39, tb_174, rfl, rfl, by decide, by decide, by decide +kernel⟩
abbrev M_X3_store : MTy := (yX3_store, cX3_store, 4, (some .int), { frames := 1, cells := 0, slots := 0, locals := 21 })
theorem ok_X3_store : OkV M_X3_store RX3 3 := ⟨tb_559, tb_560, tb_39, tb_561, rfl, by decide, by decide, by decide +kernel⟩
abbrev M_X4_empty : MTy := (yX4_empty, cX4_empty, 1, none, { frames := 0, cells := 0, slots := 0, locals := 0 })
theorem ok_X4_empty : OkV M_X4_empty RX4 0 := ⟨tb_643, tb_644, tb_37, tb_645, rfl, by decide, by decide, by decide +kernel⟩
abbrev M_X4_init : MTy := (yX4_init, cX4_init, 1, none, { frames := 1, cells := 2, slots := 92, locals := 20 })
theorem ok_X4_init : OkI M_X4_init 0 := ⟨tb_135, tb_37, tb_136, rfl, rfl, by decide, by decide, by decide +kernel⟩
abbrev M_X4_joinTrees : MTy := (yX4_joinTrees, cX4_joinTrees, 4, none, { frames := 0, cells := 0, slots := 0, locals := 0 })
theorem ok_X4_joinTrees : OkV M_X4_joinTrees RX4 2 := ⟨tb_725, tb_28, tb_37, tb_726, rfl, by decide, by decide, by decide +kernel⟩
abbrev M_X4_put : MTy := (yX4_put, cX4_put, 2, (some .boolean), { frames := 0, cells := 0, slots := 0, locals := 0 })
theorem ok_X4_put : OkV M_X4_put RX4 1 := ⟨tb_252, tb_253, tb_37, tb_254, rfl, by decide, by decide, by decide +kernel⟩
abbrev M_X4_readInto : MTy := (yX4_readInto, cX4_readInto, 3, (some .int), { frames := 4, cells := 0, slots := 0, locals := 96 })
theorem ok_X4_readInto : OkV M_X4_readInto RX4 1 := ⟨tb_696, tb_697, tb_37, tb_698, rfl, by decide, by decide, by decide +kernel⟩
abbrev M_X4_size : MTy := (yX4_size, cX4_size, 1, (some .int), { frames := 0, cells := 0, slots := 0, locals := 0 })
theorem ok_X4_size : OkV M_X4_size RX4 0 := ⟨tb_256, tb_257, tb_37, tb_258, rfl, by decide, by decide, by decide +kernel⟩
abbrev M_X4_take : MTy := (yX4_take, cX4_take, 4, (some .int), { frames := 0, cells := 0, slots := 0, locals := 0 })
theorem ok_X4_take : OkV M_X4_take RX4 2 := ⟨tb_701, tb_23, tb_37, tb_702, rfl, by decide, by decide, by decide +kernel⟩
abbrev M_X4_takeEdge : MTy := (yX4_takeEdge, cX4_takeEdge, 6, (some .boolean), { frames := 2, cells := 0, slots := 0, locals := 49 })
theorem ok_X4_takeEdge : OkV M_X4_takeEdge RX4 1 := ⟨tb_720, tb_27, tb_37, tb_721, rfl, by decide, by decide, by decide +kernel⟩
abbrev M_X4_takeEdges : MTy := (yX4_takeEdges, cX4_takeEdges, 3, (some .boolean), { frames := 3, cells := 0, slots := 0, locals := 74 })
theorem ok_X4_takeEdges : OkV M_X4_takeEdges RX4 1 := ⟨tb_716, tb_26, tb_37, tb_717, rfl, by decide, by decide, by decide +kernel⟩
abbrev M_X4_takeNumber : MTy := (yX4_takeNumber, cX4_takeNumber, 7, (some .int), { frames := 1, cells := 0, slots := 0, locals := 23 })
theorem ok_X4_takeNumber : OkV M_X4_takeNumber RX4 2 := ⟨tb_705, tb_24, tb_37, tb_706, rfl, by decide, by decide, by decide +kernel⟩
abbrev M_X4_takeWeights : MTy := (yX4_takeWeights, cX4_takeWeights, 4, (some .boolean), { frames := 2, cells := 0, slots := 0, locals := 49 })
theorem ok_X4_takeWeights : OkV M_X4_takeWeights RX4 1 := ⟨tb_710, tb_25, tb_37, tb_711, rfl, by decide, by decide, by decide +kernel⟩
abbrev M_X5_between : MTy := (yX5_between, cX5_between, 3, (some .int), { frames := 0, cells := 0, slots := 0, locals := 0 })
theorem ok_X5_between : OkV M_X5_between RX5 2 := ⟨tb_305, tb_306, tb_35, tb_307, rfl, by decide, by decide, by decide +kernel⟩
abbrev M_X5_chanceOfPath : MTy := (yX5_chanceOfPath, cX5_chanceOfPath, 8, (some .long), { frames := 4, cells := 0, slots := 0, locals := 89 })
theorem ok_X5_chanceOfPath : OkV M_X5_chanceOfPath RX5 3 := ⟨tb_548, tb_16, tb_35, tb_549, rfl, by decide, by decide, by decide +kernel⟩
abbrev M_X5_cheapestOf : MTy := (yX5_cheapestOf, cX5_cheapestOf, 5, (some .int), { frames := 3, cells := 0, slots := 0, locals := 67 })
theorem ok_X5_cheapestOf : OkV M_X5_cheapestOf RX5 1 := ⟨tb_419, tb_420, tb_35, tb_421, rfl, by decide, by decide, by decide +kernel⟩
abbrev M_X5_edgeOf : MTy := (yX5_edgeOf, cX5_edgeOf, 3, (some .int), { frames := 2, cells := 0, slots := 0, locals := 44 })
theorem ok_X5_edgeOf : OkV M_X5_edgeOf RX5 2 := ⟨tb_578, tb_579, tb_35, tb_580, rfl, by decide, by decide, by decide +kernel⟩
abbrev M_X5_evenestEdge : MTy := (yX5_evenestEdge, cX5_evenestEdge, 6, (some .int), { frames := 3, cells := 0, slots := 0, locals := 69 })
theorem ok_X5_evenestEdge : OkV M_X5_evenestEdge RX5 1 := ⟨tb_528, tb_529, tb_35, tb_530, rfl, by decide, by decide, by decide +kernel⟩
abbrev M_X5_extendOver : MTy := (yX5_extendOver, cX5_extendOver, 5, none, { frames := 1, cells := 0, slots := 0, locals := 21 })
theorem ok_X5_extendOver : OkV M_X5_extendOver RX5 2 := ⟨tb_293, tb_0, tb_35, tb_294, rfl, by decide, by decide, by decide +kernel⟩
abbrev M_X5_firstFarthest : MTy := (yX5_firstFarthest, cX5_firstFarthest, 6, (some .int), { frames := 1, cells := 0, slots := 0, locals := 22 })
theorem ok_X5_firstFarthest : OkV M_X5_firstFarthest RX5 1 := ⟨tb_383, tb_384, tb_35, tb_385, rfl, by decide, by decide, by decide +kernel⟩
abbrev M_X5_firstWideEnd : MTy := (yX5_firstWideEnd, cX5_firstWideEnd, 5, (some .int), { frames := 3, cells := 0, slots := 0, locals := 68 })
theorem ok_X5_firstWideEnd : OkV M_X5_firstWideEnd RX5 1 := ⟨tb_395, tb_396, tb_35, tb_397, rfl, by decide, by decide, by decide +kernel⟩
abbrev M_X5_goesOver : MTy := (yX5_goesOver, cX5_goesOver, 8, (some .boolean), { frames := 2, cells := 0, slots := 0, locals := 44 })
theorem ok_X5_goesOver : OkV M_X5_goesOver RX5 4 := ⟨tb_574, tb_575, tb_35, tb_576, rfl, by decide, by decide, by decide +kernel⟩
abbrev M_X5_greatestFrom : MTy := (yX5_greatestFrom, cX5_greatestFrom, 2, (some .int), { frames := 2, cells := 0, slots := 0, locals := 47 })
theorem ok_X5_greatestFrom : OkV M_X5_greatestFrom RX5 1 := ⟨tb_379, tb_380, tb_35, tb_381, rfl, by decide, by decide, by decide +kernel⟩
abbrev M_X5_heavierPart : MTy := (yX5_heavierPart, cX5_heavierPart, 6, (some .int), { frames := 2, cells := 0, slots := 0, locals := 44 })
theorem ok_X5_heavierPart : OkV M_X5_heavierPart RX5 2 := ⟨tb_533, tb_15, tb_35, tb_534, rfl, by decide, by decide, by decide +kernel⟩
abbrev M_X5_init : MTy := (yX5_init, cX5_init, 2, none, { frames := 1, cells := 13, slots := 156, locals := 20 })
theorem ok_X5_init : OkI M_X5_init 1 := ⟨tb_88, tb_35, tb_89, rfl, rfl, by decide, by decide, by decide +kernel⟩
abbrev M_X5_joined : MTy := (yX5_joined, cX5_joined, 3, (some .boolean), { frames := 1, cells := 0, slots := 0, locals := 22 })
theorem ok_X5_joined : OkV M_X5_joined RX5 2 := ⟨tb_301, tb_302, tb_35, tb_303, rfl, by decide, by decide, by decide +kernel⟩
abbrev M_X5_measure : MTy := (yX5_measure, cX5_measure, 4, none, { frames := 2, cells := 0, slots := 0, locals := 45 })
theorem ok_X5_measure : OkV M_X5_measure RX5 0 := ⟨tb_282, tb_283, tb_35, tb_284, rfl, by decide, by decide, by decide +kernel⟩
abbrev M_X5_meetingOf : MTy := (yX5_meetingOf, cX5_meetingOf, 5, (some .int), { frames := 2, cells := 0, slots := 0, locals := 45 })
theorem ok_X5_meetingOf : OkV M_X5_meetingOf RX5 3 := ⟨tb_437, tb_438, tb_35, tb_439, rfl, by decide, by decide, by decide +kernel⟩
abbrev M_X5_middleOf : MTy := (yX5_middleOf, cX5_middleOf, 5, (some .int), { frames := 3, cells := 0, slots := 0, locals := 68 })
theorem ok_X5_middleOf : OkV M_X5_middleOf RX5 1 := ⟨tb_410, tb_411, tb_35, tb_412, rfl, by decide, by decide, by decide +kernel⟩
abbrev M_X5_onPath : MTy := (yX5_onPath, cX5_onPath, 4, (some .boolean), { frames := 1, cells := 0, slots := 0, locals := 22 })
theorem ok_X5_onPath : OkV M_X5_onPath RX5 3 := ⟨tb_442, tb_2, tb_35, tb_443, rfl, by decide, by decide, by decide +kernel⟩
abbrev M_X5_priceOf : MTy := (yX5_priceOf, cX5_priceOf, 4, (some .int), { frames := 2, cells := 0, slots := 0, locals := 44 })
theorem ok_X5_priceOf : OkV M_X5_priceOf RX5 1 := ⟨tb_423, tb_424, tb_35, tb_425, rfl, by decide, by decide, by decide +kernel⟩
abbrev M_X5_reachOf : MTy := (yX5_reachOf, cX5_reachOf, 6, (some .long), { frames := 5, cells := 0, slots := 0, locals := 116 })
theorem ok_X5_reachOf : OkV M_X5_reachOf RX5 2 := ⟨tb_543, tb_544, tb_35, tb_545, rfl, by decide, by decide, by decide +kernel⟩
abbrev M_X5_smallestJoined : MTy := (yX5_smallestJoined, cX5_smallestJoined, 3, (some .int), { frames := 2, cells := 0, slots := 0, locals := 44 })
theorem ok_X5_smallestJoined : OkV M_X5_smallestJoined RX5 1 := ⟨tb_297, tb_298, tb_35, tb_299, rfl, by decide, by decide, by decide +kernel⟩
abbrev M_X5_stepToward : MTy := (yX5_stepToward, cX5_stepToward, 4, (some .int), { frames := 3, cells := 0, slots := 0, locals := 66 })
theorem ok_X5_stepToward : OkV M_X5_stepToward RX5 2 := ⟨tb_371, tb_1, tb_35, tb_372, rfl, by decide, by decide, by decide +kernel⟩
abbrev M_X5_vertexOnPath : MTy := (yX5_vertexOnPath, cX5_vertexOnPath, 6, (some .int), { frames := 4, cells := 0, slots := 0, locals := 89 })
theorem ok_X5_vertexOnPath : OkV M_X5_vertexOnPath RX5 3 := ⟨tb_366, tb_367, tb_35, tb_368, rfl, by decide, by decide, by decide +kernel⟩
abbrev M_X5_widthAround : MTy := (yX5_widthAround, cX5_widthAround, 2, (some .int), { frames := 4, cells := 0, slots := 0, locals := 92 })
theorem ok_X5_widthAround : OkV M_X5_widthAround RX5 1 := ⟨tb_391, tb_392, tb_35, tb_393, rfl, by decide, by decide, by decide +kernel⟩
abbrev M_X6_append : MTy := (yX6_append, cX6_append, 2, (some .int), { frames := 1, cells := 0, slots := 0, locals := 21 })
theorem ok_X6_append : OkV M_X6_append RX6 1 := ⟨tb_248, tb_249, tb_31, tb_250, rfl, by decide, by decide, by decide +kernel⟩
abbrev M_X6_balancedCut : MTy := (yX6_balancedCut, cX6_balancedCut, 2, (some .int), { frames := 4, cells := 0, slots := 0, locals := 94 })
theorem ok_X6_balancedCut : OkV M_X6_balancedCut RX6 1 := ⟨tb_524, tb_525, tb_31, tb_526, rfl, by decide, by decide, by decide +kernel⟩
abbrev M_X6_centre : MTy := (yX6_centre, cX6_centre, 2, (some .int), { frames := 4, cells := 0, slots := 0, locals := 92 })
theorem ok_X6_centre : OkV M_X6_centre RX6 1 := ⟨tb_406, tb_407, tb_31, tb_408, rfl, by decide, by decide, by decide +kernel⟩
abbrev M_X6_changeTrial : MTy := (yX6_changeTrial, cX6_changeTrial, 6, none, { frames := 4, cells := 0, slots := 0, locals := 92 })
theorem ok_X6_changeTrial : OkV M_X6_changeTrial RX6 1 := ⟨tb_617, tb_22, tb_31, tb_618, rfl, by decide, by decide, by decide +kernel⟩
abbrev M_X6_clearText : MTy := (yX6_clearText, cX6_clearText, 2, (some .int), { frames := 1, cells := 0, slots := 0, locals := 20 })
theorem ok_X6_clearText : OkV M_X6_clearText RX6 0 := ⟨tb_639, tb_640, tb_31, tb_641, rfl, by decide, by decide, by decide +kernel⟩
abbrev M_X6_cost : MTy := (yX6_cost, cX6_cost, 2, (some .int), { frames := 3, cells := 0, slots := 0, locals := 68 })
theorem ok_X6_cost : OkV M_X6_cost RX6 1 := ⟨tb_428, tb_429, tb_31, tb_430, rfl, by decide, by decide, by decide +kernel⟩
abbrev M_X6_cut : MTy := (yX6_cut, cX6_cut, 5, (some .int), { frames := 4, cells := 0, slots := 0, locals := 88 })
theorem ok_X6_cut : OkV M_X6_cut RX6 2 := ⟨tb_338, tb_339, tb_31, tb_340, rfl, by decide, by decide, by decide +kernel⟩
abbrev M_X6_cutError : MTy := (yX6_cutError, cX6_cutError, 3, (some .int), { frames := 3, cells := 0, slots := 0, locals := 66 })
theorem ok_X6_cutError : OkS M_X6_cutError 3 := ⟨tb_342, tb_31, tb_343, by decide, by decide, by decide +kernel⟩
abbrev M_X6_diameter : MTy := (yX6_diameter, cX6_diameter, 2, (some .int), { frames := 5, cells := 0, slots := 0, locals := 113 })
theorem ok_X6_diameter : OkV M_X6_diameter RX6 1 := ⟨tb_387, tb_388, tb_31, tb_389, rfl, by decide, by decide, by decide +kernel⟩
abbrev M_X6_diameterEnd : MTy := (yX6_diameterEnd, cX6_diameterEnd, 4, (some .int), { frames := 4, cells := 0, slots := 0, locals := 92 })
theorem ok_X6_diameterEnd : OkV M_X6_diameterEnd RX6 2 := ⟨tb_400, tb_401, tb_31, tb_402, rfl, by decide, by decide, by decide +kernel⟩
abbrev M_X6_distance : MTy := (yX6_distance, cX6_distance, 3, (some .int), { frames := 3, cells := 0, slots := 0, locals := 68 })
theorem ok_X6_distance : OkV M_X6_distance RX6 2 := ⟨tb_357, tb_358, tb_31, tb_359, rfl, by decide, by decide, by decide +kernel⟩
abbrev M_X6_eccentricity : MTy := (yX6_eccentricity, cX6_eccentricity, 2, (some .int), { frames := 3, cells := 0, slots := 0, locals := 68 })
theorem ok_X6_eccentricity : OkV M_X6_eccentricity RX6 1 := ⟨tb_375, tb_376, tb_31, tb_377, rfl, by decide, by decide, by decide +kernel⟩
abbrev M_X6_edgeWeight : MTy := (yX6_edgeWeight, cX6_edgeWeight, 3, (some .int), { frames := 3, cells := 0, slots := 0, locals := 66 })
theorem ok_X6_edgeWeight : OkV M_X6_edgeWeight RX6 2 := ⟨tb_260, tb_261, tb_31, tb_262, rfl, by decide, by decide, by decide +kernel⟩
abbrev M_X6_emptySlots : MTy := (yX6_emptySlots, cX6_emptySlots, 2, none, { frames := 0, cells := 0, slots := 0, locals := 0 })
theorem ok_X6_emptySlots : OkV M_X6_emptySlots RX6 0 := ⟨tb_729, tb_29, tb_31, tb_730, rfl, by decide, by decide, by decide +kernel⟩
abbrev M_X6_errorPosition : MTy := (yX6_errorPosition, cX6_errorPosition, 1, (some .int), { frames := 5, cells := 0, slots := 0, locals := 118 })
theorem ok_X6_errorPosition : OkV M_X6_errorPosition RX6 0 := ⟨tb_755, tb_756, tb_31, tb_757, rfl, by decide, by decide, by decide +kernel⟩
abbrev M_X6_expectedReach : MTy := (yX6_expectedReach, cX6_expectedReach, 3, (some .long), { frames := 6, cells := 0, slots := 0, locals := 141 })
theorem ok_X6_expectedReach : OkV M_X6_expectedReach RX6 2 := ⟨tb_537, tb_538, tb_31, tb_539, rfl, by decide, by decide, by decide +kernel⟩
abbrev M_X6_init : MTy := (yX6_init, cX6_init, 2, none, { frames := 4, cells := 326, slots := 3735, locals := 86 })
theorem ok_X6_init : OkI M_X6_init 0 := ⟨tb_48, tb_31, tb_49, rfl, rfl, by decide, by decide, by decide +kernel⟩
abbrev M_X6_joinedInTrial : MTy := (yX6_joinedInTrial, cX6_joinedInTrial, 3, (some .boolean), { frames := 3, cells := 0, slots := 0, locals := 68 })
theorem ok_X6_joinedInTrial : OkV M_X6_joinedInTrial RX6 2 := ⟨tb_602, tb_20, tb_31, tb_603, rfl, by decide, by decide, by decide +kernel⟩
abbrev M_X6_leavesEarlier : MTy := (yX6_leavesEarlier, cX6_leavesEarlier, 5, (some .boolean), { frames := 4, cells := 0, slots := 0, locals := 89 })
theorem ok_X6_leavesEarlier : OkV M_X6_leavesEarlier RX6 2 := ⟨tb_606, tb_21, tb_31, tb_607, rfl, by decide, by decide, by decide +kernel⟩
abbrev M_X6_link : MTy := (yX6_link, cX6_link, 5, (some .int), { frames := 4, cells := 0, slots := 0, locals := 92 })
theorem ok_X6_link : OkV M_X6_link RX6 3 := ⟨tb_309, tb_310, tb_31, tb_311, rfl, by decide, by decide, by decide +kernel⟩
abbrev M_X6_linkError : MTy := (yX6_linkError, cX6_linkError, 5, (some .int), { frames := 3, cells := 0, slots := 0, locals := 68 })
theorem ok_X6_linkError : OkS M_X6_linkError 5 := ⟨tb_313, tb_31, tb_314, by decide, by decide, by decide +kernel⟩
abbrev M_X6_load : MTy := (yX6_load, cX6_load, 1, (some .int), { frames := 5, cells := 0, slots := 0, locals := 118 })
theorem ok_X6_load : OkV M_X6_load RX6 0 := ⟨tb_692, tb_693, tb_31, tb_694, rfl, by decide, by decide, by decide +kernel⟩
abbrev M_X6_median : MTy := (yX6_median, cX6_median, 2, (some .int), { frames := 4, cells := 0, slots := 0, locals := 91 })
theorem ok_X6_median : OkV M_X6_median RX6 1 := ⟨tb_415, tb_416, tb_31, tb_417, rfl, by decide, by decide, by decide +kernel⟩
abbrev M_X6_meeting : MTy := (yX6_meeting, cX6_meeting, 4, (some .int), { frames := 3, cells := 0, slots := 0, locals := 69 })
theorem ok_X6_meeting : OkV M_X6_meeting RX6 3 := ⟨tb_433, tb_434, tb_31, tb_435, rfl, by decide, by decide, by decide +kernel⟩
abbrev M_X6_obeys : MTy := (yX6_obeys, cX6_obeys, 4, (some .boolean), { frames := 5, cells := 0, slots := 0, locals := 114 })
theorem ok_X6_obeys : OkV M_X6_obeys RX6 1 := ⟨tb_590, tb_17, tb_31, tb_591, rfl, by decide, by decide, by decide +kernel⟩
abbrev M_X6_observe : MTy := (yX6_observe, cX6_observe, 4, (some .int), { frames := 2, cells := 0, slots := 0, locals := 44 })
theorem ok_X6_observe : OkV M_X6_observe RX6 3 := ⟨tb_555, tb_556, tb_31, tb_557, rfl, by decide, by decide, by decide +kernel⟩
abbrev M_X6_pathVertex : MTy := (yX6_pathVertex, cX6_pathVertex, 4, (some .int), { frames := 5, cells := 0, slots := 0, locals := 114 })
theorem ok_X6_pathVertex : OkV M_X6_pathVertex RX6 3 := ⟨tb_362, tb_363, tb_31, tb_364, rfl, by decide, by decide, by decide +kernel⟩
abbrev M_X6_possibleWeights : MTy := (yX6_possibleWeights, cX6_possibleWeights, 3, (some .int), { frames := 4, cells := 0, slots := 0, locals := 99 })
theorem ok_X6_possibleWeights : OkV M_X6_possibleWeights RX6 2 := ⟨tb_564, tb_565, tb_31, tb_566, rfl, by decide, by decide, by decide +kernel⟩
abbrev M_X6_randomChanges : MTy := (yX6_randomChanges, cX6_randomChanges, 8, (some .int), { frames := 5, cells := 0, slots := 0, locals := 117 })
theorem ok_X6_randomChanges : OkV M_X6_randomChanges RX6 2 := ⟨tb_610, tb_611, tb_31, tb_612, rfl, by decide, by decide, by decide +kernel⟩
abbrev M_X6_removalRound : MTy := (yX6_removalRound, cX6_removalRound, 2, (some .int), { frames := 4, cells := 0, slots := 0, locals := 89 })
theorem ok_X6_removalRound : OkV M_X6_removalRound RX6 1 := ⟨tb_508, tb_509, tb_31, tb_510, rfl, by decide, by decide, by decide +kernel⟩
abbrev M_X6_restore : MTy := (yX6_restore, cX6_restore, 2, (some .int), { frames := 4, cells := 0, slots := 0, locals := 89 })
theorem ok_X6_restore : OkV M_X6_restore RX6 1 := ⟨tb_625, tb_626, tb_31, tb_627, rfl, by decide, by decide, by decide +kernel⟩
abbrev M_X6_rounds : MTy := (yX6_rounds, cX6_rounds, 2, (some .int), { frames := 4, cells := 0, slots := 0, locals := 89 })
theorem ok_X6_rounds : OkV M_X6_rounds RX6 1 := ⟨tb_445, tb_446, tb_31, tb_447, rfl, by decide, by decide, by decide +kernel⟩
abbrev M_X6_runScript : MTy := (yX6_runScript, cX6_runScript, 7, (some .int), { frames := 6, cells := 0, slots := 0, locals := 137 })
theorem ok_X6_runScript : OkV M_X6_runScript RX6 2 := ⟨tb_583, tb_584, tb_31, tb_585, rfl, by decide, by decide, by decide +kernel⟩
abbrev M_X6_save : MTy := (yX6_save, cX6_save, 2, (some .int), { frames := 4, cells := 0, slots := 0, locals := 89 })
theorem ok_X6_save : OkV M_X6_save RX6 1 := ⟨tb_621, tb_622, tb_31, tb_623, rfl, by decide, by decide, by decide +kernel⟩
abbrev M_X6_setEdgeWeight : MTy := (yX6_setEdgeWeight, cX6_setEdgeWeight, 5, (some .int), { frames := 3, cells := 0, slots := 0, locals := 69 })
theorem ok_X6_setEdgeWeight : OkV M_X6_setEdgeWeight RX6 3 := ⟨tb_345, tb_346, tb_31, tb_347, rfl, by decide, by decide, by decide +kernel⟩
abbrev M_X6_setVertexWeight : MTy := (yX6_setVertexWeight, cX6_setVertexWeight, 4, (some .int), { frames := 3, cells := 0, slots := 0, locals := 69 })
theorem ok_X6_setVertexWeight : OkV M_X6_setVertexWeight RX6 2 := ⟨tb_349, tb_350, tb_31, tb_351, rfl, by decide, by decide, by decide +kernel⟩
abbrev M_X6_survivor : MTy := (yX6_survivor, cX6_survivor, 2, (some .int), { frames := 4, cells := 0, slots := 0, locals := 89 })
theorem ok_X6_survivor : OkV M_X6_survivor RX6 1 := ⟨tb_516, tb_517, tb_31, tb_518, rfl, by decide, by decide, by decide +kernel⟩
abbrev M_X6_treeOf : MTy := (yX6_treeOf, cX6_treeOf, 2, (some .int), { frames := 3, cells := 0, slots := 0, locals := 68 })
theorem ok_X6_treeOf : OkV M_X6_treeOf RX6 1 := ⟨tb_278, tb_279, tb_31, tb_280, rfl, by decide, by decide, by decide +kernel⟩
abbrev M_X6_triesCut : MTy := (yX6_triesCut, cX6_triesCut, 3, (some .boolean), { frames := 4, cells := 0, slots := 0, locals := 88 })
theorem ok_X6_triesCut : OkV M_X6_triesCut RX6 2 := ⟨tb_598, tb_19, tb_31, tb_599, rfl, by decide, by decide, by decide +kernel⟩
abbrev M_X6_triesLink : MTy := (yX6_triesLink, cX6_triesLink, 3, (some .boolean), { frames := 4, cells := 0, slots := 0, locals := 92 })
theorem ok_X6_triesLink : OkV M_X6_triesLink RX6 2 := ⟨tb_594, tb_18, tb_31, tb_595, rfl, by decide, by decide, by decide +kernel⟩
abbrev M_X6_undo : MTy := (yX6_undo, cX6_undo, 1, (some .int), { frames := 3, cells := 0, slots := 0, locals := 69 })
theorem ok_X6_undo : OkV M_X6_undo RX6 0 := ⟨tb_732, tb_733, tb_31, tb_734, rfl, by decide, by decide, by decide +kernel⟩
abbrev M_X6_vertexWeight : MTy := (yX6_vertexWeight, cX6_vertexWeight, 2, (some .int), { frames := 2, cells := 0, slots := 0, locals := 42 })
theorem ok_X6_vertexWeight : OkV M_X6_vertexWeight RX6 1 := ⟨tb_235, tb_236, tb_31, tb_237, rfl, by decide, by decide, by decide +kernel⟩
end
section
section XISHR
variable {l : Launch} {M : MTy} {A : State → Nat → Prop} {Z : List Frame → Array Value → State → State → Prop} {E : Array Value → State → Prop} {G : Gx} {cells slots : Nat} {mem : Mem} {pc : Nat} {lv : Lv} {st : List Value}
theorem x_ishr {x y : Int32} (hdg : decode M.2.1 pc = .ok (.ishr, 1)) (kk : Xg l M A Z E G cells slots mem (pc + 1) lv (.int (x >>> (y &&& 31)) :: st)) : Xg l M A Z E G cells slots mem pc lv (.int y :: .int x :: st) := by
  intro p e s m args below meth c H locs ls C hP hD hS hL
  exact lv_ishr C.1 C.2.1 hdg (kk p e s m args below meth c H locs _ C hP hD hS hL)
end XISHR
end
