/-! ===== BEGIN printed: names, fields, word lists, decode rows ===== -/
def RX0 : String := "WaterBox$Faces"
def TX0 : u_T := fun k => match k with
  | 0 => ("WaterBox$Faces", "backI", "I", true)
  | 1 => ("WaterBox$Faces", "backJ", "I", true)
  | 2 => ("WaterBox$Faces", "lastI", "I", true)
  | 3 => ("WaterBox$Faces", "lastJ", "I", true)
  | 4 => ("WaterBox$Faces", "middleX", "D", true)
  | 5 => ("WaterBox$Faces", "middleY", "D", true)
  | _ => ("WaterBox$Faces", "values", "[D", true)
def tyX0 : Nat → FieldType := fun k => match k with
  | 0 => .int
  | 1 => .int
  | 2 => .int
  | 3 => .int
  | 4 => .double
  | 5 => .double
  | _ => .array .double
abbrev wsX00 : List Cond := u_ws RX0 TX0 7
theorem nmX0 : ∀ a, a < 7 → ∀ b, b < 7 → a ≠ b → (TX0 a).2.1 ≠ (TX0 b).2.1 := by decide +kernel
theorem tyX0_ok : ∀ k, k < 7 → parseFieldDescriptor (TX0 k).2.2.1 = some (tyX0 k) := by decide +kernel
abbrev cX0_init : ByteArray := prog_2_method_1_code
def yX0_init : MethodName := ⟨RX0, "<init>", "(I)V"⟩
abbrev cX0_isFace : ByteArray := prog_2_method_2_code
def yX0_isFace : MethodName := ⟨RX0, "isFace", "(II)Z"⟩
abbrev cX0_takeFrom : ByteArray := prog_2_method_3_code
def yX0_takeFrom : MethodName := ⟨RX0, "takeFrom", "(LWaterBox$Faces;)V"⟩
abbrev cX0_gather : ByteArray := prog_2_method_4_code
def yX0_gather : MethodName := ⟨RX0, "gather", "(LWaterBox$State;[F)V"⟩
abbrev cX0_gathered : ByteArray := prog_2_method_5_code
def yX0_gathered : MethodName := ⟨RX0, "gathered", "(LWaterBox$State;[FDD)D"⟩
abbrev cX0_hat : ByteArray := prog_2_method_6_code
def yX0_hat : MethodName := ⟨RX0, "hat", "(D)D"⟩
abbrev cX0_addToAll : ByteArray := prog_2_method_7_code
def yX0_addToAll : MethodName := ⟨RX0, "addToAll", "(D)V"⟩
abbrev cX0_closeFaces : ByteArray := prog_2_method_8_code
def yX0_closeFaces : MethodName := ⟨RX0, "closeFaces", "(LWaterBox$State;)V"⟩
abbrev cX0_isClosed : ByteArray := prog_2_method_9_code
def yX0_isClosed : MethodName := ⟨RX0, "isClosed", "(LWaterBox$State;II)Z"⟩
abbrev cX0_applyPressure : ByteArray := prog_2_method_10_code
def yX0_applyPressure : MethodName := ⟨RX0, "applyPressure", "(LWaterBox$State;LWaterBox$Solver;)V"⟩
abbrev cX0_sample : ByteArray := prog_2_method_11_code
def yX0_sample : MethodName := ⟨RX0, "sample", "(DD)D"⟩
abbrev cX0_hold : ByteArray := prog_2_method_12_code
def yX0_hold : MethodName := ⟨RX0, "hold", "(DI)D"⟩
def RX1 : String := "WaterBox$Result"
def TX1 : u_T := fun k => match k with
  | 0 => ("WaterBox$Result", "u", "LWaterBox$Faces;", true)
  | 1 => ("WaterBox$Result", "v", "LWaterBox$Faces;", true)
  | 2 => ("WaterBox$Result", "pressures", "[D", true)
  | _ => ("WaterBox$Result", "leftOver", "D", false)
def tyX1 : Nat → FieldType := fun k => match k with
  | 0 => .object "WaterBox$Faces"
  | 1 => .object "WaterBox$Faces"
  | 2 => .array .double
  | _ => .double
abbrev wsX10 : List Cond := u_ws RX1 TX1 4
theorem nmX1 : ∀ a, a < 4 → ∀ b, b < 4 → a ≠ b → (TX1 a).2.1 ≠ (TX1 b).2.1 := by decide +kernel
theorem tyX1_ok : ∀ k, k < 4 → parseFieldDescriptor (TX1 k).2.2.1 = some (tyX1 k) := by decide +kernel
abbrev cX1_init : ByteArray := prog_3_method_1_code
def yX1_init : MethodName := ⟨RX1, "<init>", "()V"⟩
abbrev cX1_keep : ByteArray := prog_3_method_2_code
def yX1_keep : MethodName := ⟨RX1, "keep", "(LWaterBox$Faces;LWaterBox$Faces;LWaterBox$Solver;)V"⟩
def RX2 : String := "WaterBox$Solver"
def TX2 : u_T := fun k => match k with
  | 0 => ("WaterBox$Solver", "parts", "[Z", true)
  | 1 => ("WaterBox$Solver", "diagonal", "[D", true)
  | 2 => ("WaterBox$Solver", "maker", "[D", true)
  | 3 => ("WaterBox$Solver", "p", "[D", true)
  | 4 => ("WaterBox$Solver", "\x72", "[D", true)
  | 5 => ("WaterBox$Solver", "h", "[D", true)
  | 6 => ("WaterBox$Solver", "z", "[D", true)
  | _ => ("WaterBox$Solver", "s", "[D", true)
def tyX2 : Nat → FieldType := fun k => match k with
  | 0 => .array .boolean
  | 1 => .array .double
  | 2 => .array .double
  | 3 => .array .double
  | 4 => .array .double
  | 5 => .array .double
  | 6 => .array .double
  | _ => .array .double
abbrev wsX20 : List Cond := u_ws RX2 TX2 8
theorem nmX2 : ∀ a, a < 8 → ∀ b, b < 8 → a ≠ b → (TX2 a).2.1 ≠ (TX2 b).2.1 := by decide +kernel
theorem tyX2_ok : ∀ k, k < 8 → parseFieldDescriptor (TX2 k).2.2.1 = some (tyX2 k) := by decide +kernel
abbrev cX2_init : ByteArray := prog_4_method_1_code
def yX2_init : MethodName := ⟨RX2, "<init>", "()V"⟩
abbrev cX2_isPart : ByteArray := prog_4_method_2_code
def yX2_isPart : MethodName := ⟨RX2, "isPart", "(II)Z"⟩
abbrev cX2_pressureAt : ByteArray := prog_4_method_3_code
def yX2_pressureAt : MethodName := ⟨RX2, "pressureAt", "(II)D"⟩
abbrev cX2_setUp : ByteArray := prog_4_method_4_code
def yX2_setUp : MethodName := ⟨RX2, "setUp", "(LWaterBox$State;LWaterBox$Faces;LWaterBox$Faces;)V"⟩
abbrev cX2_setUpCell : ByteArray := prog_4_method_5_code
def yX2_setUpCell : MethodName := ⟨RX2, "setUpCell", "(LWaterBox$State;LWaterBox$Faces;LWaterBox$Faces;II)V"⟩
abbrev cX2_makerOf : ByteArray := prog_4_method_6_code
def yX2_makerOf : MethodName := ⟨RX2, "makerOf", "(II)D"⟩
abbrev cX2_findPressure : ByteArray := prog_4_method_7_code
def yX2_findPressure : MethodName := ⟨RX2, "findPressure", "(DI)I"⟩
abbrev cX2_greatestLeft : ByteArray := prog_4_method_8_code
def yX2_greatestLeft : MethodName := ⟨RX2, "greatestLeft", "()D"⟩
abbrev cX2_product : ByteArray := prog_4_method_9_code
def yX2_product : MethodName := ⟨RX2, "product", "([D[D)D"⟩
abbrev cX2_advance : ByteArray := prog_4_method_10_code
def yX2_advance : MethodName := ⟨RX2, "advance", "(D)V"⟩
abbrev cX2_turn : ByteArray := prog_4_method_11_code
def yX2_turn : MethodName := ⟨RX2, "turn", "(D)V"⟩
abbrev cX2_multiplyS : ByteArray := prog_4_method_12_code
def yX2_multiplyS : MethodName := ⟨RX2, "multiplyS", "()V"⟩
abbrev cX2_matrixTimesS : ByteArray := prog_4_method_13_code
def yX2_matrixTimesS : MethodName := ⟨RX2, "matrixTimesS", "(II)D"⟩
abbrev cX2_makeZ : ByteArray := prog_4_method_14_code
def yX2_makeZ : MethodName := ⟨RX2, "makeZ", "()V"⟩
abbrev cX2_forward : ByteArray := prog_4_method_15_code
def yX2_forward : MethodName := ⟨RX2, "forward", "(II)D"⟩
abbrev cX2_backward : ByteArray := prog_4_method_16_code
def yX2_backward : MethodName := ⟨RX2, "backward", "(II)D"⟩
def RX3 : String := "WaterBox$State"
def TX3 : u_T := fun k => match k with
  | 0 => ("WaterBox$State", "pull", "D", false)
  | 1 => ("WaterBox$State", "share", "F", false)
  | 2 => ("WaterBox$State", "limit", "D", false)
  | 3 => ("WaterBox$State", "rounds", "I", false)
  | 4 => ("WaterBox$State", "solids", "[Z", true)
  | 5 => ("WaterBox$State", "particles", "I", false)
  | 6 => ("WaterBox$State", "x", "[F", true)
  | 7 => ("WaterBox$State", "y", "[F", true)
  | 8 => ("WaterBox$State", "a", "[F", true)
  | _ => ("WaterBox$State", "b", "[F", true)
def tyX3 : Nat → FieldType := fun k => match k with
  | 0 => .double
  | 1 => .float
  | 2 => .double
  | 3 => .int
  | 4 => .array .boolean
  | 5 => .int
  | 6 => .array .float
  | 7 => .array .float
  | 8 => .array .float
  | _ => .array .float
abbrev wsX30 : List Cond := u_ws RX3 TX3 10
theorem nmX3 : ∀ a, a < 10 → ∀ b, b < 10 → a ≠ b → (TX3 a).2.1 ≠ (TX3 b).2.1 := by decide +kernel
theorem tyX3_ok : ∀ k, k < 10 → parseFieldDescriptor (TX3 k).2.2.1 = some (tyX3 k) := by decide +kernel
abbrev cX3_init : ByteArray := prog_5_method_1_code
def yX3_init : MethodName := ⟨RX3, "<init>", "()V"⟩
abbrev cX3_takeFrom : ByteArray := prog_5_method_2_code
def yX3_takeFrom : MethodName := ⟨RX3, "takeFrom", "(LWaterBox$State;)V"⟩
abbrev cX3_isSolid : ByteArray := prog_5_method_3_code
def yX3_isSolid : MethodName := ⟨RX3, "isSolid", "(II)Z"⟩
abbrev cX3_hasParticleIn : ByteArray := prog_5_method_4_code
def yX3_hasParticleIn : MethodName := ⟨RX3, "hasParticleIn", "(II)Z"⟩
abbrev cX3_isFluid : ByteArray := prog_5_method_5_code
def yX3_isFluid : MethodName := ⟨RX3, "isFluid", "(II)Z"⟩
abbrev cX3_fluidCells : ByteArray := prog_5_method_6_code
def yX3_fluidCells : MethodName := ⟨RX3, "fluidCells", "()I"⟩
abbrev cX3_openNeighbours : ByteArray := prog_5_method_7_code
def yX3_openNeighbours : MethodName := ⟨RX3, "openNeighbours", "(II)I"⟩
def RX4 : String := "WaterBox"
def TX4 : u_T := fun k => match k with
  | 0 => ("WaterBox", "now", "LWaterBox$State;", true)
  | 1 => ("WaterBox", "marked", "LWaterBox$State;", true)
  | 2 => ("WaterBox", "oldU", "LWaterBox$Faces;", true)
  | 3 => ("WaterBox", "oldV", "LWaterBox$Faces;", true)
  | 4 => ("WaterBox", "newU", "LWaterBox$Faces;", true)
  | 5 => ("WaterBox", "newV", "LWaterBox$Faces;", true)
  | 6 => ("WaterBox", "system", "LWaterBox$Solver;", true)
  | 7 => ("WaterBox", "latest", "LWaterBox$Result;", true)
  | 8 => ("WaterBox", "stepsDone", "I", false)
  | _ => ("WaterBox", "stepsFailed", "I", false)
def tyX4 : Nat → FieldType := fun k => match k with
  | 0 => .object "WaterBox$State"
  | 1 => .object "WaterBox$State"
  | 2 => .object "WaterBox$Faces"
  | 3 => .object "WaterBox$Faces"
  | 4 => .object "WaterBox$Faces"
  | 5 => .object "WaterBox$Faces"
  | 6 => .object "WaterBox$Solver"
  | 7 => .object "WaterBox$Result"
  | 8 => .int
  | _ => .int
abbrev wsX40 : List Cond := u_ws RX4 TX4 10
theorem nmX4 : ∀ a, a < 10 → ∀ b, b < 10 → a ≠ b → (TX4 a).2.1 ≠ (TX4 b).2.1 := by decide +kernel
theorem tyX4_ok : ∀ k, k < 10 → parseFieldDescriptor (TX4 k).2.2.1 = some (tyX4 k) := by decide +kernel
abbrev cX4_init : ByteArray := prog_1_method_1_code
def yX4_init : MethodName := ⟨RX4, "<init>", "()V"⟩
abbrev cX4_solid : ByteArray := prog_1_method_2_code
def yX4_solid : MethodName := ⟨RX4, "solid", "(IIZ)Z"⟩
abbrev cX4_add : ByteArray := prog_1_method_3_code
def yX4_add : MethodName := ⟨RX4, "add", "(FFFF)I"⟩
abbrev cX4_pull : ByteArray := prog_1_method_4_code
def yX4_pull : MethodName := ⟨RX4, "pull", "(D)D"⟩
abbrev cX4_share : ByteArray := prog_1_method_5_code
def yX4_share : MethodName := ⟨RX4, "share", "(F)F"⟩
abbrev cX4_solver : ByteArray := prog_1_method_6_code
def yX4_solver : MethodName := ⟨RX4, "solver", "(II)D"⟩
abbrev cX4_step : ByteArray := prog_1_method_7_code
def yX4_step : MethodName := ⟨RX4, "step", "(D)I"⟩
abbrev cX4_back : ByteArray := prog_1_method_8_code
def yX4_back : MethodName := ⟨RX4, "back", "(Z)Z"⟩
abbrev cX4_particle : ByteArray := prog_1_method_9_code
def yX4_particle : MethodName := ⟨RX4, "particle", "(II)F"⟩
abbrev cX4_pressure : ByteArray := prog_1_method_10_code
def yX4_pressure : MethodName := ⟨RX4, "pressure", "(II)D"⟩
abbrev cX4_face : ByteArray := prog_1_method_11_code
def yX4_face : MethodName := ⟨RX4, "face", "(III)D"⟩
abbrev cX4_rest : ByteArray := prog_1_method_12_code
def yX4_rest : MethodName := ⟨RX4, "rest", "()D"⟩
abbrev cX4_energy : ByteArray := prog_1_method_13_code
def yX4_energy : MethodName := ⟨RX4, "energy", "()D"⟩
abbrev cX4_drift : ByteArray := prog_1_method_14_code
def yX4_drift : MethodName := ⟨RX4, "drift", "(I)F"⟩
abbrev cX4_count : ByteArray := prog_1_method_15_code
def yX4_count : MethodName := ⟨RX4, "count", "(I)I"⟩
abbrev cX4_buildGrids : ByteArray := prog_1_method_16_code
def yX4_buildGrids : MethodName := ⟨RX4, "buildGrids", "(D)V"⟩
abbrev cX4_renewVelocity : ByteArray := prog_1_method_17_code
def yX4_renewVelocity : MethodName := ⟨RX4, "renewVelocity", "(I)V"⟩
abbrev cX4_blend : ByteArray := prog_1_method_18_code
def yX4_blend : MethodName := ⟨RX4, "blend", "(FDD)F"⟩
abbrev cX4_moveParticle : ByteArray := prog_1_method_19_code
def yX4_moveParticle : MethodName := ⟨RX4, "moveParticle", "(ID)V"⟩
abbrev cX4_holdInBox : ByteArray := prog_1_method_20_code
def yX4_holdInBox : MethodName := ⟨RX4, "holdInBox", "(F)F"⟩
abbrev cX4_isPlace : ByteArray := prog_1_method_21_code
def yX4_isPlace : MethodName := ⟨RX4, "isPlace", "(F)Z"⟩
abbrev cX4_isSpeed : ByteArray := prog_1_method_22_code
def yX4_isSpeed : MethodName := ⟨RX4, "isSpeed", "(F)Z"⟩
abbrev cX4_isCell : ByteArray := prog_1_method_23_code
def yX4_isCell : MethodName := ⟨RX4, "isCell", "(II)Z"⟩
abbrev cX4_cellIndex : ByteArray := prog_1_method_24_code
def yX4_cellIndex : MethodName := ⟨RX4, "cellIndex", "(II)I"⟩
abbrev cX4_faceIndex : ByteArray := prog_1_method_25_code
def yX4_faceIndex : MethodName := ⟨RX4, "faceIndex", "(II)I"⟩
def RX5 : String := "WaterBoxModel"
def TX5 : u_T := fun k => match k with
  | 0 => ("WaterBoxModel", "thrown", "I", false)
  | 1 => ("WaterBoxModel", "solid", "[Z", true)
  | 2 => ("WaterBoxModel", "many", "[I", true)
  | 3 => ("WaterBoxModel", "parts", "[F", true)
  | 4 => ("WaterBoxModel", "pulls", "[D", true)
  | 5 => ("WaterBoxModel", "shares", "[F", true)
  | 6 => ("WaterBoxModel", "limits", "[D", true)
  | 7 => ("WaterBoxModel", "rounds", "[I", true)
  | 8 => ("WaterBoxModel", "done", "I", false)
  | 9 => ("WaterBoxModel", "failed", "I", false)
  | 10 => ("WaterBoxModel", "faces", "[D", true)
  | 11 => ("WaterBoxModel", "pressures", "[D", true)
  | 12 => ("WaterBoxModel", "greatest", "D", false)
  | 13 => ("WaterBoxModel", "fluid", "[Z", true)
  | 14 => ("WaterBoxModel", "takes", "[Z", true)
  | 15 => ("WaterBoxModel", "before", "[D", true)
  | 16 => ("WaterBoxModel", "after", "[D", true)
  | 17 => ("WaterBoxModel", "diagonal", "[D", true)
  | 18 => ("WaterBoxModel", "maker", "[D", true)
  | 19 => ("WaterBoxModel", "p", "[D", true)
  | 20 => ("WaterBoxModel", "\x72", "[D", true)
  | 21 => ("WaterBoxModel", "z", "[D", true)
  | 22 => ("WaterBoxModel", "s", "[D", true)
  | 23 => ("WaterBoxModel", "h", "[D", true)
  | _ => ("WaterBoxModel", "next", "[F", true)
def tyX5 : Nat → FieldType := fun k => match k with
  | 0 => .int
  | 1 => .array .boolean
  | 2 => .array .int
  | 3 => .array .float
  | 4 => .array .double
  | 5 => .array .float
  | 6 => .array .double
  | 7 => .array .int
  | 8 => .int
  | 9 => .int
  | 10 => .array .double
  | 11 => .array .double
  | 12 => .double
  | 13 => .array .boolean
  | 14 => .array .boolean
  | 15 => .array .double
  | 16 => .array .double
  | 17 => .array .double
  | 18 => .array .double
  | 19 => .array .double
  | 20 => .array .double
  | 21 => .array .double
  | 22 => .array .double
  | 23 => .array .double
  | _ => .array .float
abbrev wsX50 : List Cond := u_ws RX5 TX5 25
theorem nmX5 : ∀ a, a < 25 → ∀ b, b < 25 → a ≠ b → (TX5 a).2.1 ≠ (TX5 b).2.1 := by decide +kernel
theorem tyX5_ok : ∀ k, k < 25 → parseFieldDescriptor (TX5 k).2.2.1 = some (tyX5 k) := by decide +kernel
abbrev cX5_init : ByteArray := prog_7_method_1_code
def yX5_init : MethodName := ⟨RX5, "<init>", "()V"⟩
abbrev cX5_thrown : ByteArray := prog_7_method_2_code
def yX5_thrown : MethodName := ⟨RX5, "thrown", "()I"⟩
abbrev cX5_fail : ByteArray := prog_7_method_3_code
def yX5_fail : MethodName := ⟨RX5, "fail", "(I)I"⟩
abbrev cX5_inBox : ByteArray := prog_7_method_4_code
def yX5_inBox : MethodName := ⟨RX5, "inBox", "(II)Z"⟩
abbrev cX5_isSolid : ByteArray := prog_7_method_5_code
def yX5_isSolid : MethodName := ⟨RX5, "isSolid", "(II)Z"⟩
abbrev cX5_cellOf : ByteArray := prog_7_method_6_code
def yX5_cellOf : MethodName := ⟨RX5, "cellOf", "(FF)I"⟩
abbrev cX5_solid : ByteArray := prog_7_method_7_code
def yX5_solid : MethodName := ⟨RX5, "solid", "(IIZ)Z"⟩
abbrev cX5_off : ByteArray := prog_7_method_8_code
def yX5_off : MethodName := ⟨RX5, "off", "(FFF)Z"⟩
abbrev cX5_add : ByteArray := prog_7_method_9_code
def yX5_add : MethodName := ⟨RX5, "add", "(FFFF)I"⟩
abbrev cX5_pull : ByteArray := prog_7_method_10_code
def yX5_pull : MethodName := ⟨RX5, "pull", "(D)D"⟩
abbrev cX5_share : ByteArray := prog_7_method_11_code
def yX5_share : MethodName := ⟨RX5, "share", "(F)F"⟩
abbrev cX5_solver : ByteArray := prog_7_method_12_code
def yX5_solver : MethodName := ⟨RX5, "solver", "(II)D"⟩
abbrev cX5_copySettings : ByteArray := prog_7_method_13_code
def yX5_copySettings : MethodName := ⟨RX5, "copySettings", "(II)V"⟩
abbrev cX5_back : ByteArray := prog_7_method_14_code
def yX5_back : MethodName := ⟨RX5, "back", "(Z)Z"⟩
abbrev cX5_side : ByteArray := prog_7_method_15_code
def yX5_side : MethodName := ⟨RX5, "side", "(IZ)I"⟩
abbrev cX5_closed : ByteArray := prog_7_method_16_code
def yX5_closed : MethodName := ⟨RX5, "closed", "(I)Z"⟩
abbrev cX5_hat : ByteArray := prog_7_method_17_code
def yX5_hat : MethodName := ⟨RX5, "hat", "(D)D"⟩
abbrev cX5_gather : ByteArray := prog_7_method_18_code
def yX5_gather : MethodName := ⟨RX5, "gather", "()V"⟩
abbrev cX5_force : ByteArray := prog_7_method_19_code
def yX5_force : MethodName := ⟨RX5, "force", "(D)V"⟩
abbrev cX5_mark : ByteArray := prog_7_method_20_code
def yX5_mark : MethodName := ⟨RX5, "mark", "()V"⟩
abbrev cX5_near : ByteArray := prog_7_method_21_code
def yX5_near : MethodName := ⟨RX5, "near", "(II)I"⟩
abbrev cX5_matrix : ByteArray := prog_7_method_22_code
def yX5_matrix : MethodName := ⟨RX5, "matrix", "()V"⟩
abbrev cX5_makeZ : ByteArray := prog_7_method_23_code
def yX5_makeZ : MethodName := ⟨RX5, "makeZ", "()V"⟩
abbrev cX5_times : ByteArray := prog_7_method_24_code
def yX5_times : MethodName := ⟨RX5, "times", "()V"⟩
abbrev cX5_product : ByteArray := prog_7_method_25_code
def yX5_product : MethodName := ⟨RX5, "product", "(Z)D"⟩
abbrev cX5_rests : ByteArray := prog_7_method_26_code
def yX5_rests : MethodName := ⟨RX5, "rests", "()D"⟩
abbrev cX5_solve : ByteArray := prog_7_method_27_code
def yX5_solve : MethodName := ⟨RX5, "solve", "()I"⟩
abbrev cX5_project : ByteArray := prog_7_method_28_code
def yX5_project : MethodName := ⟨RX5, "project", "()V"⟩
abbrev cX5_within : ByteArray := prog_7_method_29_code
def yX5_within : MethodName := ⟨RX5, "within", "(DD)D"⟩
abbrev cX5_sample : ByteArray := prog_7_method_30_code
def yX5_sample : MethodName := ⟨RX5, "sample", "(ZZDD)D"⟩
abbrev cX5_bound : ByteArray := prog_7_method_31_code
def yX5_bound : MethodName := ⟨RX5, "bound", "(F)F"⟩
abbrev cX5_mixed : ByteArray := prog_7_method_32_code
def yX5_mixed : MethodName := ⟨RX5, "mixed", "(IZ)F"⟩
abbrev cX5_edge : ByteArray := prog_7_method_33_code
def yX5_edge : MethodName := ⟨RX5, "edge", "(II)V"⟩
abbrev cX5_move : ByteArray := prog_7_method_34_code
def yX5_move : MethodName := ⟨RX5, "move", "(ID)V"⟩
abbrev cX5_step : ByteArray := prog_7_method_35_code
def yX5_step : MethodName := ⟨RX5, "step", "(D)I"⟩
abbrev cX5_particle : ByteArray := prog_7_method_36_code
def yX5_particle : MethodName := ⟨RX5, "particle", "(II)F"⟩
abbrev cX5_pressure : ByteArray := prog_7_method_37_code
def yX5_pressure : MethodName := ⟨RX5, "pressure", "(II)D"⟩
abbrev cX5_face : ByteArray := prog_7_method_38_code
def yX5_face : MethodName := ⟨RX5, "face", "(III)D"⟩
abbrev cX5_rest : ByteArray := prog_7_method_39_code
def yX5_rest : MethodName := ⟨RX5, "rest", "()D"⟩
abbrev cX5_energy : ByteArray := prog_7_method_40_code
def yX5_energy : MethodName := ⟨RX5, "energy", "()D"⟩
abbrev cX5_drift : ByteArray := prog_7_method_41_code
def yX5_drift : MethodName := ⟨RX5, "drift", "(I)F"⟩
abbrev cX5_count : ByteArray := prog_7_method_42_code
def yX5_count : MethodName := ⟨RX5, "count", "(I)I"⟩
def RJ9 : String := "java/lang/Math"
def TJ9 : u_T := fun k => match k with
  | _ => ("", "", "", false)
def tyJ9 : Nat → FieldType := fun k => match k with
  | _ => .int
abbrev wsJ90 : List Cond := u_ws RJ9 TJ9 0
theorem nmJ9 : ∀ a, a < 0 → ∀ b, b < 0 → a ≠ b → (TJ9 a).2.1 ≠ (TJ9 b).2.1 := by decide +kernel
theorem tyJ9_ok : ∀ k, k < 0 → parseFieldDescriptor (TJ9 k).2.2.1 = some (tyJ9 k) := by decide +kernel
abbrev cJ9_min_7cf53 : ByteArray := prog_12_method_69_code
def yJ9_min_7cf53 : MethodName := ⟨RJ9, "min", "(II)I"⟩
def RJ0 : String := "java/lang/String"
def TJ0 : u_T := fun k => match k with
  | _ => ("", "", "", false)
def tyJ0 : Nat → FieldType := fun k => match k with
  | _ => .int
abbrev wsJ00 : List Cond := u_ws RJ0 TJ0 0
theorem nmJ0 : ∀ a, a < 0 → ∀ b, b < 0 → a ≠ b → (TJ0 a).2.1 ≠ (TJ0 b).2.1 := by decide +kernel
theorem tyJ0_ok : ∀ k, k < 0 → parseFieldDescriptor (TJ0 k).2.2.1 = some (tyJ0 k) := by decide +kernel
def RJ10 : String := "java/lang/System"
def TJ10 : u_T := fun k => match k with
  | _ => ("", "", "", false)
def tyJ10 : Nat → FieldType := fun k => match k with
  | _ => .int
abbrev wsJ100 : List Cond := u_ws RJ10 TJ10 0
theorem nmJ10 : ∀ a, a < 0 → ∀ b, b < 0 → a ≠ b → (TJ10 a).2.1 ≠ (TJ10 b).2.1 := by decide +kernel
theorem tyJ10_ok : ∀ k, k < 0 → parseFieldDescriptor (TJ10 k).2.2.1 = some (tyJ10 k) := by decide +kernel
def RL : String := "WaterBoxLaw"
abbrev cL_solid : ByteArray := method_3_code
def yL_solid : MethodName := ⟨RL, "solid", "(LWaterBox;IIZ[J)I"⟩
abbrev cL_add : ByteArray := method_4_code
def yL_add : MethodName := ⟨RL, "add", "(LWaterBox;FFFF[J)I"⟩
abbrev cL_pull : ByteArray := method_5_code
def yL_pull : MethodName := ⟨RL, "pull", "(LWaterBox;D[D)I"⟩
abbrev cL_share : ByteArray := method_6_code
def yL_share : MethodName := ⟨RL, "share", "(LWaterBox;F[D)I"⟩
abbrev cL_solver : ByteArray := method_7_code
def yL_solver : MethodName := ⟨RL, "solver", "(LWaterBox;II[D)I"⟩
abbrev cL_step : ByteArray := method_8_code
def yL_step : MethodName := ⟨RL, "step", "(LWaterBox;D[J)I"⟩
abbrev cL_particle : ByteArray := method_9_code
def yL_particle : MethodName := ⟨RL, "particle", "(LWaterBox;II[D)I"⟩
abbrev cL_pressure : ByteArray := method_10_code
def yL_pressure : MethodName := ⟨RL, "pressure", "(LWaterBox;II[D)I"⟩
abbrev cL_face : ByteArray := method_11_code
def yL_face : MethodName := ⟨RL, "face", "(LWaterBox;III[D)I"⟩
abbrev cL_law : ByteArray := code
def yL_law : MethodName := ⟨RL, "law", "([I)Z"⟩
theorem dJ9_min_7cf53_0 : decode cJ9_min_7cf53 0 = .ok (.iload_n 0, 1) := by decide +kernel
theorem dJ9_min_7cf53_1 : decode cJ9_min_7cf53 1 = .ok (.iload_n 1, 1) := by decide +kernel
theorem dJ9_min_7cf53_2 : decode cJ9_min_7cf53 2 = .ok (.if_icmp .gt 7, 3) := by decide +kernel
theorem dJ9_min_7cf53_5 : decode cJ9_min_7cf53 5 = .ok (.iload_n 0, 1) := by decide +kernel
theorem dJ9_min_7cf53_6 : decode cJ9_min_7cf53 6 = .ok (.goto 4, 3) := by decide +kernel
theorem dJ9_min_7cf53_9 : decode cJ9_min_7cf53 9 = .ok (.iload_n 1, 1) := by decide +kernel
theorem dJ9_min_7cf53_10 : decode cJ9_min_7cf53 10 = .ok (.ireturn, 1) := by decide +kernel
abbrev vwCl : List vw_C := [(RX0, TX0, 7), (RX1, TX1, 4), (RX2, TX2, 8), (RX3, TX3, 10), (RX4, TX4, 10), (RX5, TX5, 25)]

/-- the words that every method may use: the tables' good ones -/
def xG : List Cond := lw_tbl.filter goodWord
theorem xG_good : ∀ w ∈ xG, goodWord w = true := fun _ h => (List.mem_filter.mp h).2
theorem xG_tbl : ∀ w ∈ xG, w ∈ lw_tbl := fun _ h => (List.mem_filter.mp h).1
def xW0 (y : MethodName) (cc : ByteArray) (n : Nat) (ret : Option FieldType) : List Cond := .code y cc n ret :: xG
theorem xGood {y y' : MethodName} {cc cc' : ByteArray} {n n' : Nat} {ret ret' : Option FieldType} (h : Cond.code y' cc' n' ret' ∈ xG) : GoodIn (xW0 y cc n ret) (xW0 y' cc' n' ret') := by
  intro w hw
  have hm : w ∈ xG := by
    rcases List.mem_cons.mp hw with e | e
    · rw [e]; exact h
    · exact e
  exact ⟨List.mem_cons_of_mem _ hm, good_of_word (xG_good w hm)⟩
theorem xGX0 : ∀ w ∈ wsX00, w ∈ xG := by decide +kernel
theorem xGX1 : ∀ w ∈ wsX10, w ∈ xG := by decide +kernel
theorem xGX2 : ∀ w ∈ wsX20, w ∈ xG := by decide +kernel
theorem xGX3 : ∀ w ∈ wsX30, w ∈ xG := by decide +kernel
theorem xGX4 : ∀ w ∈ wsX40, w ∈ xG := by decide +kernel
theorem xGX5 : ∀ w ∈ wsX50, w ∈ xG := by decide +kernel
