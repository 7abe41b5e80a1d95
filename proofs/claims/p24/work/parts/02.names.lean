def RX0 : String := "KiteStrings$History"
def TX0 : u_T := fun k => match k with
  | 0 => ("KiteStrings$History", "states", "[LKiteStrings$Sky;", true)
  | 1 => ("KiteStrings$History", "next", "I", false)
  | _ => ("KiteStrings$History", "held", "I", false)
def tyX0 : Nat → FieldType := fun k => match k with
  | 0 => .array (.object "KiteStrings$Sky")
  | 1 => .int
  | _ => .int
theorem nmX0 : ∀ a, a < 3 → ∀ b, b < 3 → a ≠ b → (TX0 a).2.1 ≠ (TX0 b).2.1 := by decide +kernel
theorem tyX0_ok : ∀ k, k < 3 → parseFieldDescriptor (TX0 k).2.2.1 = some (tyX0 k) := by decide +kernel
abbrev cX0_init : ByteArray := prog_2_method_1_code
def yX0_init : MethodName := ⟨RX0, "<init>", "()V"⟩
abbrev cX0_record : ByteArray := prog_2_method_2_code
def yX0_record : MethodName := ⟨RX0, "record", "(LKiteStrings$Sky;)V"⟩
abbrev cX0_stateAt : ByteArray := prog_2_method_4_code
def yX0_stateAt : MethodName := ⟨RX0, "stateAt", "(I)LKiteStrings$Sky;"⟩
def RX1 : String := "KiteStrings$Pad"
def TX1 : u_T := fun k => match k with
  | 0 => ("KiteStrings$Pad", "signs", "[C", true)
  | _ => ("KiteStrings$Pad", "length", "I", false)
def tyX1 : Nat → FieldType := fun k => match k with
  | 0 => .array .char
  | _ => .int
theorem nmX1 : ∀ a, a < 2 → ∀ b, b < 2 → a ≠ b → (TX1 a).2.1 ≠ (TX1 b).2.1 := by decide +kernel
theorem tyX1_ok : ∀ k, k < 2 → parseFieldDescriptor (TX1 k).2.2.1 = some (tyX1 k) := by decide +kernel
abbrev cX1_init : ByteArray := prog_3_method_1_code
def yX1_init : MethodName := ⟨RX1, "<init>", "()V"⟩
def RX2 : String := "KiteStrings$Sky"
def TX2 : u_T := fun k => match k with
  | 0 => ("KiteStrings$Sky", "kites", "I", false)
  | 1 => ("KiteStrings$Sky", "ticks", "I", false)
  | 2 => ("KiteStrings$Sky", "rounds", "I", false)
  | 3 => ("KiteStrings$Sky", "cuts", "I", false)
  | 4 => ("KiteStrings$Sky", "flyer", "[I", true)
  | 5 => ("KiteStrings$Sky", "x", "[I", true)
  | 6 => ("KiteStrings$Sky", "y", "[I", true)
  | 7 => ("KiteStrings$Sky", "dx", "[I", true)
  | 8 => ("KiteStrings$Sky", "dy", "[I", true)
  | 9 => ("KiteStrings$Sky", "glass", "[I", true)
  | 10 => ("KiteStrings$Sky", "strength", "[I", true)
  | 11 => ("KiteStrings$Sky", "points", "[I", true)
  | 12 => ("KiteStrings$Sky", "how", "[I", true)
  | 13 => ("KiteStrings$Sky", "firstFlyer", "[I", true)
  | 14 => ("KiteStrings$Sky", "firstX", "[I", true)
  | 15 => ("KiteStrings$Sky", "firstY", "[I", true)
  | _ => ("KiteStrings$Sky", "wears", "[I", true)
def tyX2 : Nat → FieldType := fun k => match k with
  | 0 => .int
  | 1 => .int
  | 2 => .int
  | 3 => .int
  | 4 => .array .int
  | 5 => .array .int
  | 6 => .array .int
  | 7 => .array .int
  | 8 => .array .int
  | 9 => .array .int
  | 10 => .array .int
  | 11 => .array .int
  | 12 => .array .int
  | 13 => .array .int
  | 14 => .array .int
  | 15 => .array .int
  | _ => .array .int
theorem nmX2 : ∀ a, a < 17 → ∀ b, b < 17 → a ≠ b → (TX2 a).2.1 ≠ (TX2 b).2.1 := by decide +kernel
theorem tyX2_ok : ∀ k, k < 17 → parseFieldDescriptor (TX2 k).2.2.1 = some (tyX2 k) := by decide +kernel
abbrev cX2_init : ByteArray := prog_4_method_1_code
def yX2_init : MethodName := ⟨RX2, "<init>", "()V"⟩
abbrev cX2_copyFrom : ByteArray := prog_4_method_2_code
def yX2_copyFrom : MethodName := ⟨RX2, "copyFrom", "(LKiteStrings$Sky;)V"⟩
abbrev cX2_copyRow : ByteArray := prog_4_method_3_code
def yX2_copyRow : MethodName := ⟨RX2, "copyRow", "([I[I)V"⟩
abbrev cX2_has : ByteArray := prog_4_method_4_code
def yX2_has : MethodName := ⟨RX2, "has", "(I)Z"⟩
abbrev cX2_isFlying : ByteArray := prog_4_method_5_code
def yX2_isFlying : MethodName := ⟨RX2, "isFlying", "(I)Z"⟩
abbrev cX2_hasRoom : ByteArray := prog_4_method_6_code
def yX2_hasRoom : MethodName := ⟨RX2, "hasRoom", "()Z"⟩
abbrev cX2_addKite : ByteArray := prog_4_method_7_code
def yX2_addKite : MethodName := ⟨RX2, "addKite", "(IIIII)I"⟩
abbrev cX2_sendUp : ByteArray := prog_4_method_8_code
def yX2_sendUp : MethodName := ⟨RX2, "sendUp", "(I)V"⟩
abbrev cX2_beginAnew : ByteArray := prog_4_method_9_code
def yX2_beginAnew : MethodName := ⟨RX2, "beginAnew", "()V"⟩
abbrev cX2_turn : ByteArray := prog_4_method_10_code
def yX2_turn : MethodName := ⟨RX2, "turn", "(III)I"⟩
abbrev cX2_move : ByteArray := prog_4_method_11_code
def yX2_move : MethodName := ⟨RX2, "move", "(I)V"⟩
abbrev cX2_sliding : ByteArray := prog_4_method_12_code
def yX2_sliding : MethodName := ⟨RX2, "sliding", "(II)I"⟩
abbrev cX2_rubbing : ByteArray := prog_4_method_13_code
def yX2_rubbing : MethodName := ⟨RX2, "rubbing", "(IIZ)I"⟩
abbrev cX2_hasPlace : ByteArray := prog_4_method_14_code
def yX2_hasPlace : MethodName := ⟨RX2, "hasPlace", "(II)Z"⟩
abbrev cX2_wearAt : ByteArray := prog_4_method_15_code
def yX2_wearAt : MethodName := ⟨RX2, "wearAt", "(II)I"⟩
abbrev cX2_wearDown : ByteArray := prog_4_method_16_code
def yX2_wearDown : MethodName := ⟨RX2, "wearDown", "(III)V"⟩
abbrev cX2_isWornThrough : ByteArray := prog_4_method_17_code
def yX2_isWornThrough : MethodName := ⟨RX2, "isWornThrough", "(II)Z"⟩
abbrev cX2_mostWornPlace : ByteArray := prog_4_method_18_code
def yX2_mostWornPlace : MethodName := ⟨RX2, "mostWornPlace", "(I)I"⟩
abbrev cX2_flyingKites : ByteArray := prog_4_method_19_code
def yX2_flyingKites : MethodName := ⟨RX2, "flyingKites", "()I"⟩
abbrev cX2_leader : ByteArray := prog_4_method_20_code
def yX2_leader : MethodName := ⟨RX2, "leader", "()I"⟩
abbrev cX2_allPoints : ByteArray := prog_4_method_21_code
def yX2_allPoints : MethodName := ⟨RX2, "allPoints", "()I"⟩
def RX3 : String := "KiteStrings$Slot"
def TX3 : u_T := fun k => match k with
  | 0 => ("KiteStrings$Slot", "sky", "LKiteStrings$Sky;", true)
  | _ => ("KiteStrings$Slot", "isFilled", "Z", false)
def tyX3 : Nat → FieldType := fun k => match k with
  | 0 => .object "KiteStrings$Sky"
  | _ => .boolean
theorem nmX3 : ∀ a, a < 2 → ∀ b, b < 2 → a ≠ b → (TX3 a).2.1 ≠ (TX3 b).2.1 := by decide +kernel
theorem tyX3_ok : ∀ k, k < 2 → parseFieldDescriptor (TX3 k).2.2.1 = some (tyX3 k) := by decide +kernel
abbrev cX3_init : ByteArray := prog_5_method_1_code
def yX3_init : MethodName := ⟨RX3, "<init>", "()V"⟩
def RX4 : String := "KiteStrings$Tick"
def TX4 : u_T := fun k => match k with
  | 0 => ("KiteStrings$Tick", "weave", "LKiteStrings$Weave;", true)
  | 1 => ("KiteStrings$Tick", "cutKites", "I", false)
  | _ => ("KiteStrings$Tick", "scorers", "I", false)
def tyX4 : Nat → FieldType := fun k => match k with
  | 0 => .object "KiteStrings$Weave"
  | 1 => .int
  | _ => .int
theorem nmX4 : ∀ a, a < 3 → ∀ b, b < 3 → a ≠ b → (TX4 a).2.1 ≠ (TX4 b).2.1 := by decide +kernel
theorem tyX4_ok : ∀ k, k < 3 → parseFieldDescriptor (TX4 k).2.2.1 = some (tyX4 k) := by decide +kernel
abbrev cX4_init : ByteArray := prog_6_method_1_code
def yX4_init : MethodName := ⟨RX4, "<init>", "()V"⟩
abbrev cX4_happenIn : ByteArray := prog_6_method_2_code
def yX4_happenIn : MethodName := ⟨RX4, "happenIn", "(LKiteStrings$Sky;)V"⟩
abbrev cX4_wearStrings : ByteArray := prog_6_method_3_code
def yX4_wearStrings : MethodName := ⟨RX4, "wearStrings", "(LKiteStrings$Sky;)V"⟩
abbrev cX4_givePoints : ByteArray := prog_6_method_4_code
def yX4_givePoints : MethodName := ⟨RX4, "givePoints", "(LKiteStrings$Sky;)V"⟩
abbrev cX4_cutStrings : ByteArray := prog_6_method_5_code
def yX4_cutStrings : MethodName := ⟨RX4, "cutStrings", "(LKiteStrings$Sky;)V"⟩
def RX5 : String := "KiteStrings$Weave"
def TX5 : u_T := fun k => match k with
  | 0 => ("KiteStrings$Weave", "owners", "[I", true)
  | 1 => ("KiteStrings$Weave", "crossers", "[I", true)
  | 2 => ("KiteStrings$Weave", "places", "[I", true)
  | 3 => ("KiteStrings$Weave", "steep", "[Z", true)
  | _ => ("KiteStrings$Weave", "notes", "I", false)
def tyX5 : Nat → FieldType := fun k => match k with
  | 0 => .array .int
  | 1 => .array .int
  | 2 => .array .int
  | 3 => .array .boolean
  | _ => .int
theorem nmX5 : ∀ a, a < 5 → ∀ b, b < 5 → a ≠ b → (TX5 a).2.1 ≠ (TX5 b).2.1 := by decide +kernel
theorem tyX5_ok : ∀ k, k < 5 → parseFieldDescriptor (TX5 k).2.2.1 = some (tyX5 k) := by decide +kernel
abbrev cX5_init : ByteArray := prog_7_method_1_code
def yX5_init : MethodName := ⟨RX5, "<init>", "()V"⟩
abbrev cX5_measure : ByteArray := prog_7_method_2_code
def yX5_measure : MethodName := ⟨RX5, "measure", "(LKiteStrings$Sky;)V"⟩
abbrev cX5_measurePair : ByteArray := prog_7_method_3_code
def yX5_measurePair : MethodName := ⟨RX5, "measurePair", "(LKiteStrings$Sky;II)V"⟩
abbrev cX5_note : ByteArray := prog_7_method_4_code
def yX5_note : MethodName := ⟨RX5, "note", "(IIIZ)V"⟩
abbrev cX5_crossings : ByteArray := prog_7_method_5_code
def yX5_crossings : MethodName := ⟨RX5, "crossings", "()I"⟩
abbrev cX5_noteOf : ByteArray := prog_7_method_6_code
def yX5_noteOf : MethodName := ⟨RX5, "noteOf", "(II)I"⟩
abbrev cX5_cross : ByteArray := prog_7_method_7_code
def yX5_cross : MethodName := ⟨RX5, "cross", "(II)Z"⟩
abbrev cX5_placeOn : ByteArray := prog_7_method_8_code
def yX5_placeOn : MethodName := ⟨RX5, "placeOn", "(II)I"⟩
abbrev cX5_isSteep : ByteArray := prog_7_method_9_code
def yX5_isSteep : MethodName := ⟨RX5, "isSteep", "(II)Z"⟩
abbrev cX5_crossersOf : ByteArray := prog_7_method_10_code
def yX5_crossersOf : MethodName := ⟨RX5, "crossersOf", "(I)I"⟩
def RX6 : String := "KiteStrings"
def TX6 : u_T := fun k => match k with
  | 0 => ("KiteStrings", "now", "LKiteStrings$Sky;", true)
  | 1 => ("KiteStrings", "trial", "LKiteStrings$Sky;", true)
  | 2 => ("KiteStrings", "weave", "LKiteStrings$Weave;", true)
  | 3 => ("KiteStrings", "tick", "LKiteStrings$Tick;", true)
  | 4 => ("KiteStrings", "history", "LKiteStrings$History;", true)
  | 5 => ("KiteStrings", "firstSlot", "LKiteStrings$Slot;", true)
  | 6 => ("KiteStrings", "secondSlot", "LKiteStrings$Slot;", true)
  | _ => ("KiteStrings", "pad", "LKiteStrings$Pad;", true)
def tyX6 : Nat → FieldType := fun k => match k with
  | 0 => .object "KiteStrings$Sky"
  | 1 => .object "KiteStrings$Sky"
  | 2 => .object "KiteStrings$Weave"
  | 3 => .object "KiteStrings$Tick"
  | 4 => .object "KiteStrings$History"
  | 5 => .object "KiteStrings$Slot"
  | 6 => .object "KiteStrings$Slot"
  | _ => .object "KiteStrings$Pad"
theorem nmX6 : ∀ a, a < 8 → ∀ b, b < 8 → a ≠ b → (TX6 a).2.1 ≠ (TX6 b).2.1 := by decide +kernel
theorem tyX6_ok : ∀ k, k < 8 → parseFieldDescriptor (TX6 k).2.2.1 = some (tyX6 k) := by decide +kernel
abbrev cX6_init : ByteArray := prog_1_method_1_code
def yX6_init : MethodName := ⟨RX6, "<init>", "()V"⟩
abbrev cX6_launch : ByteArray := prog_1_method_2_code
def yX6_launch : MethodName := ⟨RX6, "launch", "(IIIII)I"⟩
abbrev cX6_order : ByteArray := prog_1_method_3_code
def yX6_order : MethodName := ⟨RX6, "order", "(III)I"⟩
abbrev cX6_step : ByteArray := prog_1_method_4_code
def yX6_step : MethodName := ⟨RX6, "step", "(II)I"⟩
abbrev cX6_land : ByteArray := prog_1_method_5_code
def yX6_land : MethodName := ⟨RX6, "land", "(I)I"⟩
abbrev cX6_pass : ByteArray := prog_1_method_6_code
def yX6_pass : MethodName := ⟨RX6, "pass", "(I)I"⟩
abbrev cX6_round : ByteArray := prog_1_method_7_code
def yX6_round : MethodName := ⟨RX6, "round", "()I"⟩
abbrev cX6_errorOfOrder : ByteArray := prog_1_method_10_code
def yX6_errorOfOrder : MethodName := ⟨RX6, "errorOfOrder", "(III)I"⟩
abbrev cX6_kite : ByteArray := prog_1_method_11_code
def yX6_kite : MethodName := ⟨RX6, "kite", "(II)I"⟩
abbrev cX6_aboutKite : ByteArray := prog_1_method_12_code
def yX6_aboutKite : MethodName := ⟨RX6, "aboutKite", "(II)I"⟩
abbrev cX6_aboutString : ByteArray := prog_1_method_13_code
def yX6_aboutString : MethodName := ⟨RX6, "aboutString", "(II)I"⟩
abbrev cX6_wear : ByteArray := prog_1_method_14_code
def yX6_wear : MethodName := ⟨RX6, "wear", "(II)I"⟩
abbrev cX6_crossing : ByteArray := prog_1_method_15_code
def yX6_crossing : MethodName := ⟨RX6, "crossing", "(III)I"⟩
abbrev cX6_aboutCrossing : ByteArray := prog_1_method_16_code
def yX6_aboutCrossing : MethodName := ⟨RX6, "aboutCrossing", "(III)I"⟩
abbrev cX6_count : ByteArray := prog_1_method_17_code
def yX6_count : MethodName := ⟨RX6, "count", "(I)I"⟩
abbrev cX6_ifPassed : ByteArray := prog_1_method_18_code
def yX6_ifPassed : MethodName := ⟨RX6, "ifPassed", "(II)I"⟩
abbrev cX6_firstCut : ByteArray := prog_1_method_19_code
def yX6_firstCut : MethodName := ⟨RX6, "firstCut", "(I)I"⟩
abbrev cX6_aboutCut : ByteArray := prog_1_method_20_code
def yX6_aboutCut : MethodName := ⟨RX6, "aboutCut", "(II)I"⟩
abbrev cX6_meets : ByteArray := prog_1_method_21_code
def yX6_meets : MethodName := ⟨RX6, "meets", "(II)I"⟩
abbrev cX6_isWithin : ByteArray := prog_1_method_33_code
def yX6_isWithin : MethodName := ⟨RX6, "isWithin", "(III)Z"⟩
abbrev cX6_lowestOf : ByteArray := prog_1_method_34_code
def yX6_lowestOf : MethodName := ⟨RX6, "lowestOf", "(I)I"⟩
def RX7 : String := "KiteStringsModel"
def TX7 : u_T := fun k => match k with
  | _ => ("", "", "", false)
def tyX7 : Nat → FieldType := fun k => match k with
  | _ => .int
theorem nmX7 : ∀ a, a < 0 → ∀ b, b < 0 → a ≠ b → (TX7 a).2.1 ≠ (TX7 b).2.1 := by decide +kernel
theorem tyX7_ok : ∀ k, k < 0 → parseFieldDescriptor (TX7 k).2.2.1 = some (tyX7 k) := by decide +kernel
def RJ9 : String := "java/lang/Math"
def TJ9 : u_T := fun k => match k with
  | _ => ("", "", "", false)
def tyJ9 : Nat → FieldType := fun k => match k with
  | _ => .int
theorem nmJ9 : ∀ a, a < 0 → ∀ b, b < 0 → a ≠ b → (TJ9 a).2.1 ≠ (TJ9 b).2.1 := by decide +kernel
abbrev cJ9_abs_0f7a4 : ByteArray := prog_10_method_59_code
def yJ9_abs_0f7a4 : MethodName := ⟨RJ9, "abs", "(I)I"⟩
abbrev cJ9_min_7cf53 : ByteArray := prog_10_method_69_code
def yJ9_min_7cf53 : MethodName := ⟨RJ9, "min", "(II)I"⟩
def RJ10 : String := "java/lang/System"
def TJ10 : u_T := fun k => match k with
  | _ => ("", "", "", false)
def tyJ10 : Nat → FieldType := fun k => match k with
  | _ => .int
theorem nmJ10 : ∀ a, a < 0 → ∀ b, b < 0 → a ≠ b → (TJ10 a).2.1 ≠ (TJ10 b).2.1 := by decide +kernel
def RL : String := "KiteStringsLaw"
abbrev cL_cell : ByteArray := method_2_code
def yL_cell : MethodName := ⟨RL, "cell", "([II)I"⟩
abbrev cL_low : ByteArray := method_3_code
def yL_low : MethodName := ⟨RL, "low", "(II)I"⟩
abbrev cL_worn : ByteArray := method_4_code
def yL_worn : MethodName := ⟨RL, "worn", "(II[I[I)I"⟩
abbrev cL_wear : ByteArray := method_5_code
def yL_wear : MethodName := ⟨RL, "wear", "(III[I[I)V"⟩
abbrev cL_abs : ByteArray := method_6_code
def yL_abs : MethodName := ⟨RL, "abs", "(I)I"⟩
abbrev cL_place : ByteArray := method_7_code
def yL_place : MethodName := ⟨RL, "place", "(II[I)I"⟩
abbrev cL_sliding : ByteArray := method_8_code
def yL_sliding : MethodName := ⟨RL, "sliding", "(II[I)I"⟩
abbrev cL_tick : ByteArray := method_9_code
def yL_tick : MethodName := ⟨RL, "tick", "([I[I[I[I[I)I"⟩
abbrev cL_copy : ByteArray := method_10_code
def yL_copy : MethodName := ⟨RL, "copy", "([I[II)V"⟩
abbrev cL_same : ByteArray := method_11_code
def yL_same : MethodName := ⟨RL, "same", "(LKiteStrings;[I[I[I[I)Z"⟩
abbrev cL_would : ByteArray := method_12_code
def yL_would : MethodName := ⟨RL, "would", "(LKiteStrings;I[I[I[I[I[I[I[I[I[I)Z"⟩
abbrev cL_law : ByteArray := code
def yL_law : MethodName := ⟨RL, "law", "([I)Z"⟩
abbrev vwCl : List vw_C := [(RX0, TX0, 3), (RX1, TX1, 2), (RX2, TX2, 17), (RX3, TX3, 2), (RX4, TX4, 3), (RX5, TX5, 5), (RX6, TX6, 8)]
