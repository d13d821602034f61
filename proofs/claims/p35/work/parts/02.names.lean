def RX0 : String := "WeightedForest$Contraction"
def TX0 : u_T := fun k => match k with
  | 0 => ("WeightedForest$Contraction", "count", "I", false)
  | 1 => ("WeightedForest$Contraction", "remaining", "I", false)
  | 2 => ("WeightedForest$Contraction", "round", "I", false)
  | 3 => ("WeightedForest$Contraction", "present", "[Z", true)
  | 4 => ("WeightedForest$Contraction", "raked", "[Z", true)
  | 5 => ("WeightedForest$Contraction", "removedIn", "[I", true)
  | _ => ("WeightedForest$Contraction", "edges", "[[I", true)
def tyX0 : Nat → FieldType := fun k => match k with
  | 0 => .int
  | 1 => .int
  | 2 => .int
  | 3 => .array .boolean
  | 4 => .array .boolean
  | 5 => .array .int
  | _ => .array (.array .int)
abbrev wsX00 : List Cond := u_ws RX0 TX0 7
theorem nmX0 : ∀ a, a < 7 → ∀ b, b < 7 → a ≠ b → (TX0 a).2.1 ≠ (TX0 b).2.1 := by decide +kernel
theorem tyX0_ok : ∀ k, k < 7 → parseFieldDescriptor (TX0 k).2.2.1 = some (tyX0 k) := by decide +kernel
abbrev cX0_init : ByteArray := prog_2_method_1_code
def yX0_init : MethodName := ⟨RX0, "<init>", "()V"⟩
abbrev cX0_contract : ByteArray := prog_2_method_2_code
def yX0_contract : MethodName := ⟨RX0, "contract", "(LWeightedForest$Forest;I)V"⟩
abbrev cX0_roundCount : ByteArray := prog_2_method_3_code
def yX0_roundCount : MethodName := ⟨RX0, "roundCount", "()I"⟩
abbrev cX0_roundOf : ByteArray := prog_2_method_4_code
def yX0_roundOf : MethodName := ⟨RX0, "roundOf", "(I)I"⟩
abbrev cX0_lastVertex : ByteArray := prog_2_method_5_code
def yX0_lastVertex : MethodName := ⟨RX0, "lastVertex", "()I"⟩
abbrev cX0_isVertex : ByteArray := prog_2_method_6_code
def yX0_isVertex : MethodName := ⟨RX0, "isVertex", "(I)Z"⟩
abbrev cX0_copyEdges : ByteArray := prog_2_method_7_code
def yX0_copyEdges : MethodName := ⟨RX0, "copyEdges", "(LWeightedForest$Forest;)V"⟩
abbrev cX0_gatherTree : ByteArray := prog_2_method_8_code
def yX0_gatherTree : MethodName := ⟨RX0, "gatherTree", "(I)V"⟩
abbrev cX0_gatherNeighbours : ByteArray := prog_2_method_9_code
def yX0_gatherNeighbours : MethodName := ⟨RX0, "gatherNeighbours", "()V"⟩
abbrev cX0_rake : ByteArray := prog_2_method_10_code
def yX0_rake : MethodName := ⟨RX0, "rake", "()V"⟩
abbrev cX0_removeGreatest : ByteArray := prog_2_method_11_code
def yX0_removeGreatest : MethodName := ⟨RX0, "removeGreatest", "()V"⟩
abbrev cX0_compress : ByteArray := prog_2_method_12_code
def yX0_compress : MethodName := ⟨RX0, "compress", "()V"⟩
abbrev cX0_makeEdgesOld : ByteArray := prog_2_method_13_code
def yX0_makeEdgesOld : MethodName := ⟨RX0, "makeEdgesOld", "()V"⟩
abbrev cX0_bypass : ByteArray := prog_2_method_14_code
def yX0_bypass : MethodName := ⟨RX0, "bypass", "(I)V"⟩
abbrev cX0_neighbourAfter : ByteArray := prog_2_method_15_code
def yX0_neighbourAfter : MethodName := ⟨RX0, "neighbourAfter", "(II)I"⟩
abbrev cX0_degreeOf : ByteArray := prog_2_method_16_code
def yX0_degreeOf : MethodName := ⟨RX0, "degreeOf", "(I)I"⟩
abbrev cX0_remove : ByteArray := prog_2_method_17_code
def yX0_remove : MethodName := ⟨RX0, "remove", "(I)V"⟩
def RX1 : String := "WeightedForest$Forest"
def TX1 : u_T := fun k => match k with
  | 0 => ("WeightedForest$Forest", "count", "I", false)
  | 1 => ("WeightedForest$Forest", "weights", "[I", true)
  | _ => ("WeightedForest$Forest", "edges", "[[I", true)
def tyX1 : Nat → FieldType := fun k => match k with
  | 0 => .int
  | 1 => .array .int
  | _ => .array (.array .int)
abbrev wsX10 : List Cond := u_ws RX1 TX1 3
theorem nmX1 : ∀ a, a < 3 → ∀ b, b < 3 → a ≠ b → (TX1 a).2.1 ≠ (TX1 b).2.1 := by decide +kernel
theorem tyX1_ok : ∀ k, k < 3 → parseFieldDescriptor (TX1 k).2.2.1 = some (tyX1 k) := by decide +kernel
abbrev cX1_init : ByteArray := prog_3_method_1_code
def yX1_init : MethodName := ⟨RX1, "<init>", "()V"⟩
abbrev cX1_reset : ByteArray := prog_3_method_2_code
def yX1_reset : MethodName := ⟨RX1, "reset", "(I)V"⟩
abbrev cX1_become : ByteArray := prog_3_method_3_code
def yX1_become : MethodName := ⟨RX1, "become", "(LWeightedForest$Forest;)V"⟩
abbrev cX1_vertices : ByteArray := prog_3_method_4_code
def yX1_vertices : MethodName := ⟨RX1, "vertices", "()I"⟩
abbrev cX1_hasVertex : ByteArray := prog_3_method_5_code
def yX1_hasVertex : MethodName := ⟨RX1, "hasVertex", "(I)Z"⟩
abbrev cX1_hasVertices : ByteArray := prog_3_method_6_code
def yX1_hasVertices : MethodName := ⟨RX1, "hasVertices", "(II)Z"⟩
abbrev cX1_weightOf : ByteArray := prog_3_method_7_code
def yX1_weightOf : MethodName := ⟨RX1, "weightOf", "(I)I"⟩
abbrev cX1_putWeight : ByteArray := prog_3_method_8_code
def yX1_putWeight : MethodName := ⟨RX1, "putWeight", "(II)V"⟩
abbrev cX1_hasEdge : ByteArray := prog_3_method_9_code
def yX1_hasEdge : MethodName := ⟨RX1, "hasEdge", "(II)Z"⟩
abbrev cX1_edgeBetween : ByteArray := prog_3_method_10_code
def yX1_edgeBetween : MethodName := ⟨RX1, "edgeBetween", "(II)I"⟩
abbrev cX1_putEdge : ByteArray := prog_3_method_11_code
def yX1_putEdge : MethodName := ⟨RX1, "putEdge", "(III)V"⟩
abbrev cX1_edgeCount : ByteArray := prog_3_method_12_code
def yX1_edgeCount : MethodName := ⟨RX1, "edgeCount", "()I"⟩
def RX2 : String := "WeightedForest$History"
def TX2 : u_T := fun k => match k with
  | 0 => ("WeightedForest$History", "states", "[LWeightedForest$Forest;", true)
  | 1 => ("WeightedForest$History", "next", "I", false)
  | _ => ("WeightedForest$History", "count", "I", false)
def tyX2 : Nat → FieldType := fun k => match k with
  | 0 => .array (.object "WeightedForest$Forest")
  | 1 => .int
  | _ => .int
abbrev wsX20 : List Cond := u_ws RX2 TX2 3
theorem nmX2 : ∀ a, a < 3 → ∀ b, b < 3 → a ≠ b → (TX2 a).2.1 ≠ (TX2 b).2.1 := by decide +kernel
theorem tyX2_ok : ∀ k, k < 3 → parseFieldDescriptor (TX2 k).2.2.1 = some (tyX2 k) := by decide +kernel
abbrev cX2_init : ByteArray := prog_4_method_1_code
def yX2_init : MethodName := ⟨RX2, "<init>", "()V"⟩
abbrev cX2_size : ByteArray := prog_4_method_2_code
def yX2_size : MethodName := ⟨RX2, "size", "()I"⟩
abbrev cX2_remember : ByteArray := prog_4_method_3_code
def yX2_remember : MethodName := ⟨RX2, "remember", "(LWeightedForest$Forest;)V"⟩
abbrev cX2_takeBack : ByteArray := prog_4_method_4_code
def yX2_takeBack : MethodName := ⟨RX2, "takeBack", "(LWeightedForest$Forest;)Z"⟩
abbrev cX2_forget : ByteArray := prog_4_method_5_code
def yX2_forget : MethodName := ⟨RX2, "forget", "()V"⟩
def RX3 : String := "WeightedForest$Observations"
def TX3 : u_T := fun k => match k with
  | 0 => ("WeightedForest$Observations", "starts", "[I", true)
  | 1 => ("WeightedForest$Observations", "ends", "[I", true)
  | 2 => ("WeightedForest$Observations", "lengths", "[I", true)
  | 3 => ("WeightedForest$Observations", "next", "I", false)
  | _ => ("WeightedForest$Observations", "count", "I", false)
def tyX3 : Nat → FieldType := fun k => match k with
  | 0 => .array .int
  | 1 => .array .int
  | 2 => .array .int
  | 3 => .int
  | _ => .int
abbrev wsX30 : List Cond := u_ws RX3 TX3 5
theorem nmX3 : ∀ a, a < 5 → ∀ b, b < 5 → a ≠ b → (TX3 a).2.1 ≠ (TX3 b).2.1 := by decide +kernel
theorem tyX3_ok : ∀ k, k < 5 → parseFieldDescriptor (TX3 k).2.2.1 = some (tyX3 k) := by decide +kernel
abbrev cX3_init : ByteArray := prog_5_method_1_code
def yX3_init : MethodName := ⟨RX3, "<init>", "()V"⟩
abbrev cX3_store : ByteArray := prog_5_method_2_code
def yX3_store : MethodName := ⟨RX3, "store", "(III)I"⟩
abbrev cX3_countWeights : ByteArray := prog_5_method_3_code
def yX3_countWeights : MethodName := ⟨RX3, "countWeights", "(LWeightedForest$Survey;II)I"⟩
def RX4 : String := "WeightedForest$SetupText"
def TX4 : u_T := fun k => match k with
  | 0 => ("WeightedForest$SetupText", "length", "I", false)
  | 1 => ("WeightedForest$SetupText", "signs", "[I", true)
  | 2 => ("WeightedForest$SetupText", "place", "I", false)
  | _ => ("WeightedForest$SetupText", "treeMarks", "[I", true)
def tyX4 : Nat → FieldType := fun k => match k with
  | 0 => .int
  | 1 => .array .int
  | 2 => .int
  | _ => .array .int
abbrev wsX40 : List Cond := u_ws RX4 TX4 4
theorem nmX4 : ∀ a, a < 4 → ∀ b, b < 4 → a ≠ b → (TX4 a).2.1 ≠ (TX4 b).2.1 := by decide +kernel
theorem tyX4_ok : ∀ k, k < 4 → parseFieldDescriptor (TX4 k).2.2.1 = some (tyX4 k) := by decide +kernel
abbrev cX4_init : ByteArray := prog_6_method_1_code
def yX4_init : MethodName := ⟨RX4, "<init>", "()V"⟩
abbrev cX4_size : ByteArray := prog_6_method_2_code
def yX4_size : MethodName := ⟨RX4, "size", "()I"⟩
abbrev cX4_put : ByteArray := prog_6_method_3_code
def yX4_put : MethodName := ⟨RX4, "put", "(I)Z"⟩
abbrev cX4_empty : ByteArray := prog_6_method_4_code
def yX4_empty : MethodName := ⟨RX4, "empty", "()V"⟩
abbrev cX4_readInto : ByteArray := prog_6_method_5_code
def yX4_readInto : MethodName := ⟨RX4, "readInto", "(LWeightedForest$Forest;)I"⟩
abbrev cX4_takeWeights : ByteArray := prog_6_method_6_code
def yX4_takeWeights : MethodName := ⟨RX4, "takeWeights", "(LWeightedForest$Forest;)Z"⟩
abbrev cX4_takeEdges : ByteArray := prog_6_method_7_code
def yX4_takeEdges : MethodName := ⟨RX4, "takeEdges", "(LWeightedForest$Forest;)Z"⟩
abbrev cX4_takeEdge : ByteArray := prog_6_method_8_code
def yX4_takeEdge : MethodName := ⟨RX4, "takeEdge", "(LWeightedForest$Forest;)Z"⟩
abbrev cX4_joinTrees : ByteArray := prog_6_method_9_code
def yX4_joinTrees : MethodName := ⟨RX4, "joinTrees", "(II)V"⟩
abbrev cX4_takeNumber : ByteArray := prog_6_method_10_code
def yX4_takeNumber : MethodName := ⟨RX4, "takeNumber", "(II)I"⟩
abbrev cX4_take : ByteArray := prog_6_method_11_code
def yX4_take : MethodName := ⟨RX4, "take", "(II)I"⟩
def RX5 : String := "WeightedForest$Survey"
def TX5 : u_T := fun k => match k with
  | 0 => ("WeightedForest$Survey", "forest", "LWeightedForest$Forest;", true)
  | 1 => ("WeightedForest$Survey", "count", "I", false)
  | _ => ("WeightedForest$Survey", "lengths", "[[I", true)
def tyX5 : Nat → FieldType := fun k => match k with
  | 0 => .object "WeightedForest$Forest"
  | 1 => .int
  | _ => .array (.array .int)
abbrev wsX50 : List Cond := u_ws RX5 TX5 3
theorem nmX5 : ∀ a, a < 3 → ∀ b, b < 3 → a ≠ b → (TX5 a).2.1 ≠ (TX5 b).2.1 := by decide +kernel
theorem tyX5_ok : ∀ k, k < 3 → parseFieldDescriptor (TX5 k).2.2.1 = some (tyX5 k) := by decide +kernel
abbrev cX5_init : ByteArray := prog_7_method_1_code
def yX5_init : MethodName := ⟨RX5, "<init>", "(LWeightedForest$Forest;)V"⟩
abbrev cX5_measure : ByteArray := prog_7_method_2_code
def yX5_measure : MethodName := ⟨RX5, "measure", "()V"⟩
abbrev cX5_extendOver : ByteArray := prog_7_method_3_code
def yX5_extendOver : MethodName := ⟨RX5, "extendOver", "(II)V"⟩
abbrev cX5_between : ByteArray := prog_7_method_4_code
def yX5_between : MethodName := ⟨RX5, "between", "(II)I"⟩
abbrev cX5_joined : ByteArray := prog_7_method_5_code
def yX5_joined : MethodName := ⟨RX5, "joined", "(II)Z"⟩
abbrev cX5_edgeOf : ByteArray := prog_7_method_6_code
def yX5_edgeOf : MethodName := ⟨RX5, "edgeOf", "(II)I"⟩
abbrev cX5_smallestJoined : ByteArray := prog_7_method_7_code
def yX5_smallestJoined : MethodName := ⟨RX5, "smallestJoined", "(I)I"⟩
abbrev cX5_vertexOnPath : ByteArray := prog_7_method_8_code
def yX5_vertexOnPath : MethodName := ⟨RX5, "vertexOnPath", "(III)I"⟩
abbrev cX5_stepToward : ByteArray := prog_7_method_9_code
def yX5_stepToward : MethodName := ⟨RX5, "stepToward", "(II)I"⟩
abbrev cX5_greatestFrom : ByteArray := prog_7_method_10_code
def yX5_greatestFrom : MethodName := ⟨RX5, "greatestFrom", "(I)I"⟩
abbrev cX5_firstFarthest : ByteArray := prog_7_method_11_code
def yX5_firstFarthest : MethodName := ⟨RX5, "firstFarthest", "(I)I"⟩
abbrev cX5_widthAround : ByteArray := prog_7_method_12_code
def yX5_widthAround : MethodName := ⟨RX5, "widthAround", "(I)I"⟩
abbrev cX5_firstWideEnd : ByteArray := prog_7_method_13_code
def yX5_firstWideEnd : MethodName := ⟨RX5, "firstWideEnd", "(I)I"⟩
abbrev cX5_middleOf : ByteArray := prog_7_method_14_code
def yX5_middleOf : MethodName := ⟨RX5, "middleOf", "(I)I"⟩
abbrev cX5_priceOf : ByteArray := prog_7_method_15_code
def yX5_priceOf : MethodName := ⟨RX5, "priceOf", "(I)I"⟩
abbrev cX5_cheapestOf : ByteArray := prog_7_method_16_code
def yX5_cheapestOf : MethodName := ⟨RX5, "cheapestOf", "(I)I"⟩
abbrev cX5_meetingOf : ByteArray := prog_7_method_17_code
def yX5_meetingOf : MethodName := ⟨RX5, "meetingOf", "(III)I"⟩
abbrev cX5_onPath : ByteArray := prog_7_method_18_code
def yX5_onPath : MethodName := ⟨RX5, "onPath", "(III)Z"⟩
abbrev cX5_goesOver : ByteArray := prog_7_method_19_code
def yX5_goesOver : MethodName := ⟨RX5, "goesOver", "(IIII)Z"⟩
abbrev cX5_evenestEdge : ByteArray := prog_7_method_20_code
def yX5_evenestEdge : MethodName := ⟨RX5, "evenestEdge", "(I)I"⟩
abbrev cX5_heavierPart : ByteArray := prog_7_method_21_code
def yX5_heavierPart : MethodName := ⟨RX5, "heavierPart", "(II)I"⟩
abbrev cX5_reachOf : ByteArray := prog_7_method_22_code
def yX5_reachOf : MethodName := ⟨RX5, "reachOf", "(II)J"⟩
abbrev cX5_chanceOfPath : ByteArray := prog_7_method_23_code
def yX5_chanceOfPath : MethodName := ⟨RX5, "chanceOfPath", "(III)J"⟩
def RX6 : String := "WeightedForest"
def TX6 : u_T := fun k => match k with
  | 0 => ("WeightedForest", "forest", "LWeightedForest$Forest;", true)
  | 1 => ("WeightedForest", "survey", "LWeightedForest$Survey;", true)
  | 2 => ("WeightedForest", "trial", "LWeightedForest$Forest;", true)
  | 3 => ("WeightedForest", "trialSurvey", "LWeightedForest$Survey;", true)
  | 4 => ("WeightedForest", "contraction", "LWeightedForest$Contraction;", true)
  | 5 => ("WeightedForest", "text", "LWeightedForest$SetupText;", true)
  | 6 => ("WeightedForest", "history", "LWeightedForest$History;", true)
  | 7 => ("WeightedForest", "observations", "LWeightedForest$Observations;", true)
  | 8 => ("WeightedForest", "slots", "[LWeightedForest$Forest;", true)
  | _ => ("WeightedForest", "filled", "[Z", true)
def tyX6 : Nat → FieldType := fun k => match k with
  | 0 => .object "WeightedForest$Forest"
  | 1 => .object "WeightedForest$Survey"
  | 2 => .object "WeightedForest$Forest"
  | 3 => .object "WeightedForest$Survey"
  | 4 => .object "WeightedForest$Contraction"
  | 5 => .object "WeightedForest$SetupText"
  | 6 => .object "WeightedForest$History"
  | 7 => .object "WeightedForest$Observations"
  | 8 => .array (.object "WeightedForest$Forest")
  | _ => .array .boolean
abbrev wsX60 : List Cond := u_ws RX6 TX6 10
theorem nmX6 : ∀ a, a < 10 → ∀ b, b < 10 → a ≠ b → (TX6 a).2.1 ≠ (TX6 b).2.1 := by decide +kernel
theorem tyX6_ok : ∀ k, k < 10 → parseFieldDescriptor (TX6 k).2.2.1 = some (tyX6 k) := by decide +kernel
abbrev cX6_init : ByteArray := prog_1_method_1_code
def yX6_init : MethodName := ⟨RX6, "<init>", "()V"⟩
abbrev cX6_append : ByteArray := prog_1_method_2_code
def yX6_append : MethodName := ⟨RX6, "append", "(I)I"⟩
abbrev cX6_clearText : ByteArray := prog_1_method_3_code
def yX6_clearText : MethodName := ⟨RX6, "clearText", "()I"⟩
abbrev cX6_errorPosition : ByteArray := prog_1_method_4_code
def yX6_errorPosition : MethodName := ⟨RX6, "errorPosition", "()I"⟩
abbrev cX6_load : ByteArray := prog_1_method_5_code
def yX6_load : MethodName := ⟨RX6, "load", "()I"⟩
abbrev cX6_emptySlots : ByteArray := prog_1_method_6_code
def yX6_emptySlots : MethodName := ⟨RX6, "emptySlots", "()V"⟩
abbrev cX6_vertexWeight : ByteArray := prog_1_method_7_code
def yX6_vertexWeight : MethodName := ⟨RX6, "vertexWeight", "(I)I"⟩
abbrev cX6_edgeWeight : ByteArray := prog_1_method_8_code
def yX6_edgeWeight : MethodName := ⟨RX6, "edgeWeight", "(II)I"⟩
abbrev cX6_treeOf : ByteArray := prog_1_method_9_code
def yX6_treeOf : MethodName := ⟨RX6, "treeOf", "(I)I"⟩
abbrev cX6_link : ByteArray := prog_1_method_10_code
def yX6_link : MethodName := ⟨RX6, "link", "(III)I"⟩
abbrev cX6_cut : ByteArray := prog_1_method_11_code
def yX6_cut : MethodName := ⟨RX6, "cut", "(II)I"⟩
abbrev cX6_setEdgeWeight : ByteArray := prog_1_method_12_code
def yX6_setEdgeWeight : MethodName := ⟨RX6, "setEdgeWeight", "(III)I"⟩
abbrev cX6_setVertexWeight : ByteArray := prog_1_method_13_code
def yX6_setVertexWeight : MethodName := ⟨RX6, "setVertexWeight", "(II)I"⟩
abbrev cX6_undo : ByteArray := prog_1_method_14_code
def yX6_undo : MethodName := ⟨RX6, "undo", "()I"⟩
abbrev cX6_linkError : ByteArray := prog_1_method_15_code
def yX6_linkError : MethodName := ⟨RX6, "linkError", "(LWeightedForest$Forest;LWeightedForest$Survey;III)I"⟩
abbrev cX6_cutError : ByteArray := prog_1_method_16_code
def yX6_cutError : MethodName := ⟨RX6, "cutError", "(LWeightedForest$Forest;II)I"⟩
abbrev cX6_distance : ByteArray := prog_1_method_17_code
def yX6_distance : MethodName := ⟨RX6, "distance", "(II)I"⟩
abbrev cX6_pathVertex : ByteArray := prog_1_method_18_code
def yX6_pathVertex : MethodName := ⟨RX6, "pathVertex", "(III)I"⟩
abbrev cX6_eccentricity : ByteArray := prog_1_method_19_code
def yX6_eccentricity : MethodName := ⟨RX6, "eccentricity", "(I)I"⟩
abbrev cX6_diameter : ByteArray := prog_1_method_20_code
def yX6_diameter : MethodName := ⟨RX6, "diameter", "(I)I"⟩
abbrev cX6_diameterEnd : ByteArray := prog_1_method_21_code
def yX6_diameterEnd : MethodName := ⟨RX6, "diameterEnd", "(II)I"⟩
abbrev cX6_centre : ByteArray := prog_1_method_22_code
def yX6_centre : MethodName := ⟨RX6, "centre", "(I)I"⟩
abbrev cX6_median : ByteArray := prog_1_method_23_code
def yX6_median : MethodName := ⟨RX6, "median", "(I)I"⟩
abbrev cX6_cost : ByteArray := prog_1_method_24_code
def yX6_cost : MethodName := ⟨RX6, "cost", "(I)I"⟩
abbrev cX6_meeting : ByteArray := prog_1_method_25_code
def yX6_meeting : MethodName := ⟨RX6, "meeting", "(III)I"⟩
abbrev cX6_rounds : ByteArray := prog_1_method_26_code
def yX6_rounds : MethodName := ⟨RX6, "rounds", "(I)I"⟩
abbrev cX6_removalRound : ByteArray := prog_1_method_27_code
def yX6_removalRound : MethodName := ⟨RX6, "removalRound", "(I)I"⟩
abbrev cX6_survivor : ByteArray := prog_1_method_28_code
def yX6_survivor : MethodName := ⟨RX6, "survivor", "(I)I"⟩
abbrev cX6_balancedCut : ByteArray := prog_1_method_29_code
def yX6_balancedCut : MethodName := ⟨RX6, "balancedCut", "(I)I"⟩
abbrev cX6_expectedReach : ByteArray := prog_1_method_30_code
def yX6_expectedReach : MethodName := ⟨RX6, "expectedReach", "(II)J"⟩
abbrev cX6_observe : ByteArray := prog_1_method_31_code
def yX6_observe : MethodName := ⟨RX6, "observe", "(III)I"⟩
abbrev cX6_possibleWeights : ByteArray := prog_1_method_32_code
def yX6_possibleWeights : MethodName := ⟨RX6, "possibleWeights", "(II)I"⟩
abbrev cX6_runScript : ByteArray := prog_1_method_33_code
def yX6_runScript : MethodName := ⟨RX6, "runScript", "(IJ)I"⟩
abbrev cX6_obeys : ByteArray := prog_1_method_34_code
def yX6_obeys : MethodName := ⟨RX6, "obeys", "(I)Z"⟩
abbrev cX6_triesLink : ByteArray := prog_1_method_35_code
def yX6_triesLink : MethodName := ⟨RX6, "triesLink", "(II)Z"⟩
abbrev cX6_triesCut : ByteArray := prog_1_method_36_code
def yX6_triesCut : MethodName := ⟨RX6, "triesCut", "(II)Z"⟩
abbrev cX6_joinedInTrial : ByteArray := prog_1_method_37_code
def yX6_joinedInTrial : MethodName := ⟨RX6, "joinedInTrial", "(II)Z"⟩
abbrev cX6_leavesEarlier : ByteArray := prog_1_method_38_code
def yX6_leavesEarlier : MethodName := ⟨RX6, "leavesEarlier", "(II)Z"⟩
abbrev cX6_randomChanges : ByteArray := prog_1_method_39_code
def yX6_randomChanges : MethodName := ⟨RX6, "randomChanges", "(JI)I"⟩
abbrev cX6_changeTrial : ByteArray := prog_1_method_40_code
def yX6_changeTrial : MethodName := ⟨RX6, "changeTrial", "(I)V"⟩
abbrev cX6_save : ByteArray := prog_1_method_41_code
def yX6_save : MethodName := ⟨RX6, "save", "(I)I"⟩
abbrev cX6_restore : ByteArray := prog_1_method_42_code
def yX6_restore : MethodName := ⟨RX6, "restore", "(I)I"⟩
def RX7 : String := "WeightedForestModel"
def TX7 : u_T := fun k => match k with
  | _ => ("", "", "", false)
def tyX7 : Nat → FieldType := fun k => match k with
  | _ => .int
abbrev wsX70 : List Cond := u_ws RX7 TX7 0
theorem nmX7 : ∀ a, a < 0 → ∀ b, b < 0 → a ≠ b → (TX7 a).2.1 ≠ (TX7 b).2.1 := by decide +kernel
theorem tyX7_ok : ∀ k, k < 0 → parseFieldDescriptor (TX7 k).2.2.1 = some (tyX7 k) := by decide +kernel
def RJx145de : String := "java/io/Serializable"
def TJx145de : u_T := fun k => match k with
  | _ => ("", "", "", false)
def tyJx145de : Nat → FieldType := fun k => match k with
  | _ => .int
abbrev wsJx145de0 : List Cond := u_ws RJx145de TJx145de 0
theorem nmJx145de : ∀ a, a < 0 → ∀ b, b < 0 → a ≠ b → (TJx145de a).2.1 ≠ (TJx145de b).2.1 := by decide +kernel
theorem tyJx145de_ok : ∀ k, k < 0 → parseFieldDescriptor (TJx145de k).2.2.1 = some (tyJx145de k) := by decide +kernel
def RJx9f9b0 : String := "java/lang/CharSequence"
def TJx9f9b0 : u_T := fun k => match k with
  | _ => ("", "", "", false)
def tyJx9f9b0 : Nat → FieldType := fun k => match k with
  | _ => .int
abbrev wsJx9f9b00 : List Cond := u_ws RJx9f9b0 TJx9f9b0 0
theorem nmJx9f9b0 : ∀ a, a < 0 → ∀ b, b < 0 → a ≠ b → (TJx9f9b0 a).2.1 ≠ (TJx9f9b0 b).2.1 := by decide +kernel
theorem tyJx9f9b0_ok : ∀ k, k < 0 → parseFieldDescriptor (TJx9f9b0 k).2.2.1 = some (tyJx9f9b0 k) := by decide +kernel
def RJxb160c : String := "java/lang/Comparable"
def TJxb160c : u_T := fun k => match k with
  | _ => ("", "", "", false)
def tyJxb160c : Nat → FieldType := fun k => match k with
  | _ => .int
abbrev wsJxb160c0 : List Cond := u_ws RJxb160c TJxb160c 0
theorem nmJxb160c : ∀ a, a < 0 → ∀ b, b < 0 → a ≠ b → (TJxb160c a).2.1 ≠ (TJxb160c b).2.1 := by decide +kernel
theorem tyJxb160c_ok : ∀ k, k < 0 → parseFieldDescriptor (TJxb160c k).2.2.1 = some (tyJxb160c k) := by decide +kernel
def RJ9 : String := "java/lang/Math"
def TJ9 : u_T := fun k => match k with
  | _ => ("", "", "", false)
def tyJ9 : Nat → FieldType := fun k => match k with
  | _ => .int
abbrev wsJ90 : List Cond := u_ws RJ9 TJ9 0
theorem nmJ9 : ∀ a, a < 0 → ∀ b, b < 0 → a ≠ b → (TJ9 a).2.1 ≠ (TJ9 b).2.1 := by decide +kernel
theorem tyJ9_ok : ∀ k, k < 0 → parseFieldDescriptor (TJ9 k).2.2.1 = some (tyJ9 k) := by decide +kernel
abbrev cJ9_max_7cf53 : ByteArray := prog_10_method_65_code
def yJ9_max_7cf53 : MethodName := ⟨RJ9, "max", "(II)I"⟩
abbrev cJ9_min_7cf53 : ByteArray := prog_10_method_69_code
def yJ9_min_7cf53 : MethodName := ⟨RJ9, "min", "(II)I"⟩
def RJ0 : String := "java/lang/String"
def TJ0 : u_T := fun k => match k with
  | _ => ("", "", "", false)
def tyJ0 : Nat → FieldType := fun k => match k with
  | _ => .int
abbrev wsJ00 : List Cond := u_ws RJ0 TJ0 0
theorem nmJ0 : ∀ a, a < 0 → ∀ b, b < 0 → a ≠ b → (TJ0 a).2.1 ≠ (TJ0 b).2.1 := by decide +kernel
theorem tyJ0_ok : ∀ k, k < 0 → parseFieldDescriptor (TJ0 k).2.2.1 = some (tyJ0 k) := by decide +kernel
abbrev cJ0_charAt_5068e : ByteArray := prog_11_method_56_code
def yJ0_charAt_5068e : MethodName := ⟨RJ0, "charAt", "(I)C"⟩
abbrev cJ0_isLatin1_aae02 : ByteArray := prog_11_method_154_code
def yJ0_isLatin1_aae02 : MethodName := ⟨RJ0, "isLatin1", "()Z"⟩
abbrev cJ0_checkIndex_df160 : ByteArray := prog_11_method_155_code
def yJ0_checkIndex_df160 : MethodName := ⟨RJ0, "checkIndex", "(II)V"⟩
def RJ1 : String := "java/lang/StringLatin1"
def TJ1 : u_T := fun k => match k with
  | _ => ("", "", "", false)
def tyJ1 : Nat → FieldType := fun k => match k with
  | _ => .int
abbrev wsJ10 : List Cond := u_ws RJ1 TJ1 0
theorem nmJ1 : ∀ a, a < 0 → ∀ b, b < 0 → a ≠ b → (TJ1 a).2.1 ≠ (TJ1 b).2.1 := by decide +kernel
theorem tyJ1_ok : ∀ k, k < 0 → parseFieldDescriptor (TJ1 k).2.2.1 = some (tyJ1 k) := by decide +kernel
abbrev cJ1_charAt_3b067 : ByteArray := prog_12_method_2_code
def yJ1_charAt_3b067 : MethodName := ⟨RJ1, "charAt", "([BI)C"⟩
def RJ2 : String := "java/lang/StringUTF16"
def TJ2 : u_T := fun k => match k with
  | _ => ("", "", "", false)
def tyJ2 : Nat → FieldType := fun k => match k with
  | _ => .int
abbrev wsJ20 : List Cond := u_ws RJ2 TJ2 0
theorem nmJ2 : ∀ a, a < 0 → ∀ b, b < 0 → a ≠ b → (TJ2 a).2.1 ≠ (TJ2 b).2.1 := by decide +kernel
theorem tyJ2_ok : ∀ k, k < 0 → parseFieldDescriptor (TJ2 k).2.2.1 = some (tyJ2 k) := by decide +kernel
abbrev cJ2_getChar_3b067 : ByteArray := prog_13_method_5_code
def yJ2_getChar_3b067 : MethodName := ⟨RJ2, "getChar", "([BI)C"⟩
abbrev cJ2_length_9d52b : ByteArray := prog_13_method_6_code
def yJ2_length_9d52b : MethodName := ⟨RJ2, "length", "([B)I"⟩
abbrev cJ2_charAt_3b067 : ByteArray := prog_13_method_83_code
def yJ2_charAt_3b067 : MethodName := ⟨RJ2, "charAt", "([BI)C"⟩
abbrev cJ2_checkIndex_2214a : ByteArray := prog_13_method_91_code
def yJ2_checkIndex_2214a : MethodName := ⟨RJ2, "checkIndex", "(I[B)V"⟩
def RJ10 : String := "java/lang/System"
def TJ10 : u_T := fun k => match k with
  | _ => ("", "", "", false)
def tyJ10 : Nat → FieldType := fun k => match k with
  | _ => .int
abbrev wsJ100 : List Cond := u_ws RJ10 TJ10 0
theorem nmJ10 : ∀ a, a < 0 → ∀ b, b < 0 → a ≠ b → (TJ10 a).2.1 ≠ (TJ10 b).2.1 := by decide +kernel
theorem tyJ10_ok : ∀ k, k < 0 → parseFieldDescriptor (TJ10 k).2.2.1 = some (tyJ10 k) := by decide +kernel
def RJxfd54e : String := "java/lang/constant/Constable"
def TJxfd54e : u_T := fun k => match k with
  | _ => ("", "", "", false)
def tyJxfd54e : Nat → FieldType := fun k => match k with
  | _ => .int
abbrev wsJxfd54e0 : List Cond := u_ws RJxfd54e TJxfd54e 0
theorem nmJxfd54e : ∀ a, a < 0 → ∀ b, b < 0 → a ≠ b → (TJxfd54e a).2.1 ≠ (TJxfd54e b).2.1 := by decide +kernel
theorem tyJxfd54e_ok : ∀ k, k < 0 → parseFieldDescriptor (TJxfd54e k).2.2.1 = some (tyJxfd54e k) := by decide +kernel
def RJx3cf43 : String := "java/lang/constant/ConstantDesc"
def TJx3cf43 : u_T := fun k => match k with
  | _ => ("", "", "", false)
def tyJx3cf43 : Nat → FieldType := fun k => match k with
  | _ => .int
abbrev wsJx3cf430 : List Cond := u_ws RJx3cf43 TJx3cf43 0
theorem nmJx3cf43 : ∀ a, a < 0 → ∀ b, b < 0 → a ≠ b → (TJx3cf43 a).2.1 ≠ (TJx3cf43 b).2.1 := by decide +kernel
theorem tyJx3cf43_ok : ∀ k, k < 0 → parseFieldDescriptor (TJx3cf43 k).2.2.1 = some (tyJx3cf43 k) := by decide +kernel
def RJ7 : String := "java/util/Arrays"
def TJ7 : u_T := fun k => match k with
  | _ => ("", "", "", false)
def tyJ7 : Nat → FieldType := fun k => match k with
  | _ => .int
abbrev wsJ70 : List Cond := u_ws RJ7 TJ7 0
theorem nmJ7 : ∀ a, a < 0 → ∀ b, b < 0 → a ≠ b → (TJ7 a).2.1 ≠ (TJ7 b).2.1 := by decide +kernel
theorem tyJ7_ok : ∀ k, k < 0 → parseFieldDescriptor (TJ7 k).2.2.1 = some (tyJ7 k) := by decide +kernel
abbrev cJ7_fill_53178 : ByteArray := prog_15_method_103_code
def yJ7_fill_53178 : MethodName := ⟨RJ7, "fill", "([II)V"⟩
def RJ3 : String := "jdk/internal/util/Preconditions"
def TJ3 : u_T := fun k => match k with
  | _ => ("", "", "", false)
def tyJ3 : Nat → FieldType := fun k => match k with
  | _ => .int
abbrev wsJ30 : List Cond := u_ws RJ3 TJ3 0
theorem nmJ3 : ∀ a, a < 0 → ∀ b, b < 0 → a ≠ b → (TJ3 a).2.1 ≠ (TJ3 b).2.1 := by decide +kernel
theorem tyJ3_ok : ∀ k, k < 0 → parseFieldDescriptor (TJ3 k).2.2.1 = some (tyJ3 k) := by decide +kernel
abbrev cJ3_checkIndex_8e157 : ByteArray := prog_16_method_11_code
def yJ3_checkIndex_8e157 : MethodName := ⟨RJ3, "checkIndex", "(IILjava/util/function/BiFunction;)I"⟩
def RL : String := "WeightedForestLaw"
abbrev cL_cell : ByteArray := method_2_code
def yL_cell : MethodName := ⟨RL, "cell", "([II)I"⟩
abbrev cL_vertices : ByteArray := method_3_code
def yL_vertices : MethodName := ⟨RL, "vertices", "(LWeightedForest;)I"⟩
abbrev cL_errors : ByteArray := method_4_code
def yL_errors : MethodName := ⟨RL, "errors", "(LWeightedForest;)Z"⟩
abbrev cL_two : ByteArray := method_5_code
def yL_two : MethodName := ⟨RL, "two", "(LWeightedForest;I)I"⟩
abbrev cL_load : ByteArray := method_6_code
def yL_load : MethodName := ⟨RL, "load", "(LWeightedForest;II)I"⟩
abbrev cL_act : ByteArray := method_7_code
def yL_act : MethodName := ⟨RL, "act", "(LWeightedForest;II)I"⟩
abbrev cL_now : ByteArray := method_8_code
def yL_now : MethodName := ⟨RL, "now", "(LWeightedForest;)J"⟩
abbrev cL_alike : ByteArray := method_9_code
def yL_alike : MethodName := ⟨RL, "alike", "(LWeightedForest;LWeightedForest;)Z"⟩
abbrev cL_built : ByteArray := method_10_code
def yL_built : MethodName := ⟨RL, "built", "(LWeightedForest;I)Z"⟩
abbrev cL_ahead : ByteArray := method_11_code
def yL_ahead : MethodName := ⟨RL, "ahead", "(LWeightedForest;I)Z"⟩
abbrev cL_law : ByteArray := code
def yL_law : MethodName := ⟨RL, "law", "([I)Z"⟩
abbrev vwCl : List vw_C := [(RX0, TX0, 7), (RX1, TX1, 3), (RX2, TX2, 3), (RX3, TX3, 5), (RX4, TX4, 4), (RX5, TX5, 3), (RX6, TX6, 10)]
