def RX0 : String := "RowVotes$Frame"
def TX0 : u_T := fun k => match k with
  | 0 => ("RowVotes$Frame", "time", "I", false)
  | 1 => ("RowVotes$Frame", "blinded", "I", false)
  | _ => ("RowVotes$Frame", "pixels", "[I", true)
def tyX0 : Nat → FieldType := fun k => match k with
  | 0 => .int
  | 1 => .int
  | _ => .array .int
abbrev wsX00 : List Cond := u_ws RX0 TX0 3
theorem nmX0 : ∀ a, a < 3 → ∀ b, b < 3 → a ≠ b → (TX0 a).2.1 ≠ (TX0 b).2.1 := by decide +kernel
theorem tyX0_ok : ∀ k, k < 3 → parseFieldDescriptor (TX0 k).2.2.1 = some (tyX0 k) := by decide +kernel
abbrev cX0_init : ByteArray := prog_2_method_1_code
def yX0_init : MethodName := ⟨RX0, "<init>", "()V"⟩
abbrev cX0_become : ByteArray := prog_2_method_2_code
def yX0_become : MethodName := ⟨RX0, "become", "(LRowVotes$Frame;)V"⟩
abbrev cX0_pixelAt : ByteArray := prog_2_method_3_code
def yX0_pixelAt : MethodName := ⟨RX0, "pixelAt", "(II)I"⟩
abbrev cX0_keepRow : ByteArray := prog_2_method_4_code
def yX0_keepRow : MethodName := ⟨RX0, "keepRow", "(I[II)V"⟩
def RX1 : String := "RowVotes$MotionSearch"
def TX1 : u_T := fun k => match k with
  | 0 => ("RowVotes$MotionSearch", "times", "[I", true)
  | 1 => ("RowVotes$MotionSearch", "needed", "[I", true)
  | 2 => ("RowVotes$MotionSearch", "barred", "[I", true)
  | 3 => ("RowVotes$MotionSearch", "demands", "I", false)
  | 4 => ("RowVotes$MotionSearch", "lineWithout", "[I", true)
  | 5 => ("RowVotes$MotionSearch", "lineWith", "[I", true)
  | 6 => ("RowVotes$MotionSearch", "found", "I", false)
  | 7 => ("RowVotes$MotionSearch", "firstPosition", "I", false)
  | 8 => ("RowVotes$MotionSearch", "firstSpeed", "I", false)
  | 9 => ("RowVotes$MotionSearch", "lastPosition", "I", false)
  | _ => ("RowVotes$MotionSearch", "lastSpeed", "I", false)
def tyX1 : Nat → FieldType := fun k => match k with
  | 0 => .array .int
  | 1 => .array .int
  | 2 => .array .int
  | 3 => .int
  | 4 => .array .int
  | 5 => .array .int
  | 6 => .int
  | 7 => .int
  | 8 => .int
  | 9 => .int
  | _ => .int
abbrev wsX10 : List Cond := u_ws RX1 TX1 11
theorem nmX1 : ∀ a, a < 11 → ∀ b, b < 11 → a ≠ b → (TX1 a).2.1 ≠ (TX1 b).2.1 := by decide +kernel
theorem tyX1_ok : ∀ k, k < 11 → parseFieldDescriptor (TX1 k).2.2.1 = some (tyX1 k) := by decide +kernel
abbrev cX1_init : ByteArray := prog_3_method_1_code
def yX1_init : MethodName := ⟨RX1, "<init>", "()V"⟩
abbrev cX1_run : ByteArray := prog_3_method_2_code
def yX1_run : MethodName := ⟨RX1, "run", "(LRowVotes$Scene;I)V"⟩
abbrev cX1_isVain : ByteArray := prog_3_method_3_code
def yX1_isVain : MethodName := ⟨RX1, "isVain", "()Z"⟩
abbrev cX1_answer : ByteArray := prog_3_method_4_code
def yX1_answer : MethodName := ⟨RX1, "answer", "(I)I"⟩
abbrev cX1_gatherDemands : ByteArray := prog_3_method_5_code
def yX1_gatherDemands : MethodName := ⟨RX1, "gatherDemands", "(LRowVotes$Scene;I)V"⟩
abbrev cX1_addDemand : ByteArray := prog_3_method_6_code
def yX1_addDemand : MethodName := ⟨RX1, "addDemand", "(LRowVotes$Scene;ILRowVotes$Frame;I)V"⟩
abbrev cX1_meetsDemands : ByteArray := prog_3_method_7_code
def yX1_meetsDemands : MethodName := ⟨RX1, "meetsDemands", "(III)Z"⟩
abbrev cX1_keepMotion : ByteArray := prog_3_method_8_code
def yX1_keepMotion : MethodName := ⟨RX1, "keepMotion", "(II)V"⟩
def RX2 : String := "RowVotes$Order"
def TX2 : u_T := fun k => match k with
  | 0 => ("RowVotes$Order", "letter", "C", false)
  | 1 => ("RowVotes$Order", "numbers", "[I", true)
  | 2 => ("RowVotes$Order", "end", "I", false)
  | _ => ("RowVotes$Order", "broken", "Z", false)
def tyX2 : Nat → FieldType := fun k => match k with
  | 0 => .char
  | 1 => .array .int
  | 2 => .int
  | _ => .boolean
abbrev wsX20 : List Cond := u_ws RX2 TX2 4
theorem nmX2 : ∀ a, a < 4 → ∀ b, b < 4 → a ≠ b → (TX2 a).2.1 ≠ (TX2 b).2.1 := by decide +kernel
theorem tyX2_ok : ∀ k, k < 4 → parseFieldDescriptor (TX2 k).2.2.1 = some (tyX2 k) := by decide +kernel
abbrev cX2_init : ByteArray := prog_4_method_1_code
def yX2_init : MethodName := ⟨RX2, "<init>", "()V"⟩
def RX3 : String := "RowVotes$Scene"
def TX3 : u_T := fun k => match k with
  | 0 => ("RowVotes$Scene", "settings", "[I", true)
  | 1 => ("RowVotes$Scene", "things", "[LRowVotes$Thing;", true)
  | 2 => ("RowVotes$Scene", "thingCount", "I", false)
  | 3 => ("RowVotes$Scene", "frames", "[LRowVotes$Frame;", true)
  | 4 => ("RowVotes$Scene", "frameCount", "I", false)
  | 5 => ("RowVotes$Scene", "framesTaken", "I", false)
  | 6 => ("RowVotes$Scene", "time", "I", false)
  | 7 => ("RowVotes$Scene", "blinded", "I", false)
  | 8 => ("RowVotes$Scene", "agreed", "[I", true)
  | _ => ("RowVotes$Scene", "dissented", "[I", true)
def tyX3 : Nat → FieldType := fun k => match k with
  | 0 => .array .int
  | 1 => .array (.object "RowVotes$Thing")
  | 2 => .int
  | 3 => .array (.object "RowVotes$Frame")
  | 4 => .int
  | 5 => .int
  | 6 => .int
  | 7 => .int
  | 8 => .array .int
  | _ => .array .int
abbrev wsX30 : List Cond := u_ws RX3 TX3 10
theorem nmX3 : ∀ a, a < 10 → ∀ b, b < 10 → a ≠ b → (TX3 a).2.1 ≠ (TX3 b).2.1 := by decide +kernel
theorem tyX3_ok : ∀ k, k < 10 → parseFieldDescriptor (TX3 k).2.2.1 = some (tyX3 k) := by decide +kernel
abbrev cX3_init : ByteArray := prog_5_method_1_code
def yX3_init : MethodName := ⟨RX3, "<init>", "()V"⟩
abbrev cX3_become : ByteArray := prog_5_method_2_code
def yX3_become : MethodName := ⟨RX3, "become", "(LRowVotes$Scene;)V"⟩
abbrev cX3_becomeInThings : ByteArray := prog_5_method_3_code
def yX3_becomeInThings : MethodName := ⟨RX3, "becomeInThings", "(LRowVotes$Scene;)V"⟩
abbrev cX3_becomeInFrames : ByteArray := prog_5_method_4_code
def yX3_becomeInFrames : MethodName := ⟨RX3, "becomeInFrames", "(LRowVotes$Scene;)V"⟩
abbrev cX3_setting : ByteArray := prog_5_method_5_code
def yX3_setting : MethodName := ⟨RX3, "setting", "(I)I"⟩
abbrev cX3_changeSetting : ByteArray := prog_5_method_6_code
def yX3_changeSetting : MethodName := ⟨RX3, "changeSetting", "(II)V"⟩
abbrev cX3_thingAt : ByteArray := prog_5_method_7_code
def yX3_thingAt : MethodName := ⟨RX3, "thingAt", "(I)LRowVotes$Thing;"⟩
abbrev cX3_addThing : ByteArray := prog_5_method_8_code
def yX3_addThing : MethodName := ⟨RX3, "addThing", "(IIIIII)V"⟩
abbrev cX3_frameAt : ByteArray := prog_5_method_9_code
def yX3_frameAt : MethodName := ⟨RX3, "frameAt", "(I)LRowVotes$Frame;"⟩
abbrev cX3_takeFrame : ByteArray := prog_5_method_10_code
def yX3_takeFrame : MethodName := ⟨RX3, "takeFrame", "([I)V"⟩
abbrev cX3_dropFrame : ByteArray := prog_5_method_11_code
def yX3_dropFrame : MethodName := ⟨RX3, "dropFrame", "(I)V"⟩
abbrev cX3_photograph : ByteArray := prog_5_method_12_code
def yX3_photograph : MethodName := ⟨RX3, "photograph", "(LRowVotes$Frame;I[I)V"⟩
abbrev cX3_timeOfRow : ByteArray := prog_5_method_13_code
def yX3_timeOfRow : MethodName := ⟨RX3, "timeOfRow", "(LRowVotes$Frame;I)I"⟩
abbrev cX3_percentAt : ByteArray := prog_5_method_14_code
def yX3_percentAt : MethodName := ⟨RX3, "percentAt", "(I)I"⟩
abbrev cX3_paint : ByteArray := prog_5_method_15_code
def yX3_paint : MethodName := ⟨RX3, "paint", "(IIII[I)V"⟩
abbrev cX3_paintOver : ByteArray := prog_5_method_16_code
def yX3_paintOver : MethodName := ⟨RX3, "paintOver", "([III)V"⟩
abbrev cX3_edgesIn : ByteArray := prog_5_method_17_code
def yX3_edgesIn : MethodName := ⟨RX3, "edgesIn", "(LRowVotes$Frame;I)I"⟩
abbrev cX3_weightOf : ByteArray := prog_5_method_19_code
def yX3_weightOf : MethodName := ⟨RX3, "weightOf", "(I)I"⟩
def RX4 : String := "RowVotes$Script"
def TX4 : u_T := fun k => match k with
  | 0 => ("RowVotes$Script", "signs", "[C", true)
  | 1 => ("RowVotes$Script", "length", "I", false)
  | 2 => ("RowVotes$Script", "order", "LRowVotes$Order;", true)
  | 3 => ("RowVotes$Script", "orderCount", "I", false)
  | 4 => ("RowVotes$Script", "place", "I", false)
  | 5 => ("RowVotes$Script", "reason", "I", false)
  | 6 => ("RowVotes$Script", "cause", "I", false)
  | 7 => ("RowVotes$Script", "thingsThen", "I", false)
  | 8 => ("RowVotes$Script", "timeThen", "I", false)
  | _ => ("RowVotes$Script", "blindedThen", "I", false)
def tyX4 : Nat → FieldType := fun k => match k with
  | 0 => .array .char
  | 1 => .int
  | 2 => .object "RowVotes$Order"
  | 3 => .int
  | 4 => .int
  | 5 => .int
  | 6 => .int
  | 7 => .int
  | 8 => .int
  | _ => .int
abbrev wsX40 : List Cond := u_ws RX4 TX4 10
theorem nmX4 : ∀ a, a < 10 → ∀ b, b < 10 → a ≠ b → (TX4 a).2.1 ≠ (TX4 b).2.1 := by decide +kernel
theorem tyX4_ok : ∀ k, k < 10 → parseFieldDescriptor (TX4 k).2.2.1 = some (tyX4 k) := by decide +kernel
abbrev cX4_init : ByteArray := prog_6_method_1_code
def yX4_init : MethodName := ⟨RX4, "<init>", "()V"⟩
def RX5 : String := "RowVotes$Thing"
def TX5 : u_T := fun k => match k with
  | 0 => ("RowVotes$Thing", "top", "I", false)
  | 1 => ("RowVotes$Thing", "bottom", "I", false)
  | 2 => ("RowVotes$Thing", "position", "I", false)
  | 3 => ("RowVotes$Thing", "speed", "I", false)
  | 4 => ("RowVotes$Thing", "width", "I", false)
  | _ => ("RowVotes$Thing", "brightness", "I", false)
def tyX5 : Nat → FieldType := fun k => match k with
  | 0 => .int
  | 1 => .int
  | 2 => .int
  | 3 => .int
  | 4 => .int
  | _ => .int
abbrev wsX50 : List Cond := u_ws RX5 TX5 6
theorem nmX5 : ∀ a, a < 6 → ∀ b, b < 6 → a ≠ b → (TX5 a).2.1 ≠ (TX5 b).2.1 := by decide +kernel
theorem tyX5_ok : ∀ k, k < 6 → parseFieldDescriptor (TX5 k).2.2.1 = some (tyX5 k) := by decide +kernel
abbrev cX5_init : ByteArray := prog_7_method_1_code
def yX5_init : MethodName := ⟨RX5, "<init>", "()V"⟩
abbrev cX5_become : ByteArray := prog_7_method_2_code
def yX5_become : MethodName := ⟨RX5, "become", "(LRowVotes$Thing;)V"⟩
abbrev cX5_numberOf : ByteArray := prog_7_method_3_code
def yX5_numberOf : MethodName := ⟨RX5, "numberOf", "(I)I"⟩
abbrev cX5_isIn : ByteArray := prog_7_method_4_code
def yX5_isIn : MethodName := ⟨RX5, "isIn", "(I)Z"⟩
abbrev cX5_positionAt : ByteArray := prog_7_method_5_code
def yX5_positionAt : MethodName := ⟨RX5, "positionAt", "(I)I"⟩
abbrev cX5_changeSpeed : ByteArray := prog_7_method_6_code
def yX5_changeSpeed : MethodName := ⟨RX5, "changeSpeed", "(II)V"⟩
def RX6 : String := "RowVotes$Voting"
def TX6 : u_T := fun k => match k with
  | 0 => ("RowVotes$Voting", "firstEdges", "[I", true)
  | 1 => ("RowVotes$Voting", "secondEdges", "[I", true)
  | 2 => ("RowVotes$Voting", "votes", "[I", true)
  | _ => ("RowVotes$Voting", "tally", "[I", true)
def tyX6 : Nat → FieldType := fun k => match k with
  | 0 => .array .int
  | 1 => .array .int
  | 2 => .array .int
  | _ => .array .int
abbrev wsX60 : List Cond := u_ws RX6 TX6 4
theorem nmX6 : ∀ a, a < 4 → ∀ b, b < 4 → a ≠ b → (TX6 a).2.1 ≠ (TX6 b).2.1 := by decide +kernel
theorem tyX6_ok : ∀ k, k < 4 → parseFieldDescriptor (TX6 k).2.2.1 = some (tyX6 k) := by decide +kernel
abbrev cX6_init : ByteArray := prog_8_method_1_code
def yX6_init : MethodName := ⟨RX6, "<init>", "()V"⟩
def RX7 : String := "RowVotes"
def TX7 : u_T := fun k => match k with
  | 0 => ("RowVotes", "now", "LRowVotes$Scene;", true)
  | 1 => ("RowVotes", "history", "[LRowVotes$Scene;", true)
  | 2 => ("RowVotes", "states", "I", false)
  | 3 => ("RowVotes", "script", "LRowVotes$Script;", true)
  | 4 => ("RowVotes", "voting", "LRowVotes$Voting;", true)
  | 5 => ("RowVotes", "search", "LRowVotes$MotionSearch;", true)
  | 6 => ("RowVotes", "trial", "LRowVotes$Frame;", true)
  | _ => ("RowVotes", "line", "[I", true)
def tyX7 : Nat → FieldType := fun k => match k with
  | 0 => .object "RowVotes$Scene"
  | 1 => .array (.object "RowVotes$Scene")
  | 2 => .int
  | 3 => .object "RowVotes$Script"
  | 4 => .object "RowVotes$Voting"
  | 5 => .object "RowVotes$MotionSearch"
  | 6 => .object "RowVotes$Frame"
  | _ => .array .int
abbrev wsX70 : List Cond := u_ws RX7 TX7 8
theorem nmX7 : ∀ a, a < 8 → ∀ b, b < 8 → a ≠ b → (TX7 a).2.1 ≠ (TX7 b).2.1 := by decide +kernel
theorem tyX7_ok : ∀ k, k < 8 → parseFieldDescriptor (TX7 k).2.2.1 = some (tyX7 k) := by decide +kernel
abbrev cX7_init : ByteArray := prog_1_method_1_code
def yX7_init : MethodName := ⟨RX7, "<init>", "()V"⟩
abbrev cX7_set : ByteArray := prog_1_method_2_code
def yX7_set : MethodName := ⟨RX7, "set", "(II)I"⟩
abbrev cX7_thing : ByteArray := prog_1_method_3_code
def yX7_thing : MethodName := ⟨RX7, "thing", "(IIIIII)I"⟩
abbrev cX7_turn : ByteArray := prog_1_method_4_code
def yX7_turn : MethodName := ⟨RX7, "turn", "(II)I"⟩
abbrev cX7_thingOf : ByteArray := prog_1_method_5_code
def yX7_thingOf : MethodName := ⟨RX7, "thingOf", "(II)I"⟩
abbrev cX7_blind : ByteArray := prog_1_method_6_code
def yX7_blind : MethodName := ⟨RX7, "blind", "(II)I"⟩
abbrev cX7_shows : ByteArray := prog_1_method_7_code
def yX7_shows : MethodName := ⟨RX7, "shows", "(III)I"⟩
abbrev cX7_shoot : ByteArray := prog_1_method_8_code
def yX7_shoot : MethodName := ⟨RX7, "shoot", "()I"⟩
abbrev cX7_forget : ByteArray := prog_1_method_9_code
def yX7_forget : MethodName := ⟨RX7, "forget", "(I)I"⟩
abbrev cX7_frameOf : ByteArray := prog_1_method_10_code
def yX7_frameOf : MethodName := ⟨RX7, "frameOf", "(II)I"⟩
abbrev cX7_pixel : ByteArray := prog_1_method_11_code
def yX7_pixel : MethodName := ⟨RX7, "pixel", "(III)I"⟩
abbrev cX7_edges : ByteArray := prog_1_method_12_code
def yX7_edges : MethodName := ⟨RX7, "edges", "(II)I"⟩
abbrev cX7_pass : ByteArray := prog_1_method_13_code
def yX7_pass : MethodName := ⟨RX7, "pass", "(I)I"⟩
abbrev cX7_rowOf : ByteArray := prog_1_method_23_code
def yX7_rowOf : MethodName := ⟨RX7, "rowOf", "(II)I"⟩
abbrev cX7_motions : ByteArray := prog_1_method_25_code
def yX7_motions : MethodName := ⟨RX7, "motions", "(II)I"⟩
abbrev cX7_periods : ByteArray := prog_1_method_26_code
def yX7_periods : MethodName := ⟨RX7, "periods", "()I"⟩
abbrev cX7_fitting : ByteArray := prog_1_method_27_code
def yX7_fitting : MethodName := ⟨RX7, "fitting", "(I)I"⟩
abbrev cX7_count : ByteArray := prog_1_method_28_code
def yX7_count : MethodName := ⟨RX7, "count", "(I)I"⟩
abbrev cX7_undo : ByteArray := prog_1_method_29_code
def yX7_undo : MethodName := ⟨RX7, "undo", "()I"⟩
abbrev cX7_recordState : ByteArray := prog_1_method_34_code
def yX7_recordState : MethodName := ⟨RX7, "recordState", "()V"⟩
abbrev cX7_dropOldestState : ByteArray := prog_1_method_35_code
def yX7_dropOldestState : MethodName := ⟨RX7, "dropOldestState", "()V"⟩
abbrev cX7_isPlace : ByteArray := prog_1_method_36_code
def yX7_isPlace : MethodName := ⟨RX7, "isPlace", "(II)Z"⟩
abbrev cX7_edgeCountOf : ByteArray := prog_1_method_39_code
def yX7_edgeCountOf : MethodName := ⟨RX7, "edgeCountOf", "(LRowVotes$Frame;)I"⟩
abbrev cX7_rowFits : ByteArray := prog_1_method_40_code
def yX7_rowFits : MethodName := ⟨RX7, "rowFits", "(LRowVotes$Frame;II)Z"⟩
abbrev cX7_periodsFitting : ByteArray := prog_1_method_41_code
def yX7_periodsFitting : MethodName := ⟨RX7, "periodsFitting", "(LRowVotes$Frame;)I"⟩
abbrev cX7_darkPeriods : ByteArray := prog_1_method_42_code
def yX7_darkPeriods : MethodName := ⟨RX7, "darkPeriods", "(I)I"⟩
abbrev cX7_isWithin : ByteArray := prog_1_method_43_code
def yX7_isWithin : MethodName := ⟨RX7, "isWithin", "(III)Z"⟩
abbrev cX7_numberIn : ByteArray := prog_1_method_44_code
def yX7_numberIn : MethodName := ⟨RX7, "numberIn", "([II)I"⟩
abbrev cX7_holds : ByteArray := prog_1_method_45_code
def yX7_holds : MethodName := ⟨RX7, "holds", "(II)Z"⟩
abbrev cX7_isDark : ByteArray := prog_1_method_46_code
def yX7_isDark : MethodName := ⟨RX7, "isDark", "(III)Z"⟩
abbrev cX7_dimmed : ByteArray := prog_1_method_47_code
def yX7_dimmed : MethodName := ⟨RX7, "dimmed", "(II)I"⟩
abbrev cX7_wrongOfThing : ByteArray := prog_1_method_48_code
def yX7_wrongOfThing : MethodName := ⟨RX7, "wrongOfThing", "(IIIIII)I"⟩
abbrev cX7_columnsCovered : ByteArray := prog_1_method_49_code
def yX7_columnsCovered : MethodName := ⟨RX7, "columnsCovered", "(II)I"⟩
def RX8 : String := "RowVotesModel"
def TX8 : u_T := fun k => match k with
  | _ => ("", "", "", false)
def tyX8 : Nat → FieldType := fun k => match k with
  | _ => .int
abbrev wsX80 : List Cond := u_ws RX8 TX8 0
theorem nmX8 : ∀ a, a < 0 → ∀ b, b < 0 → a ≠ b → (TX8 a).2.1 ≠ (TX8 b).2.1 := by decide +kernel
theorem tyX8_ok : ∀ k, k < 0 → parseFieldDescriptor (TX8 k).2.2.1 = some (tyX8 k) := by decide +kernel
def RJ6 : String := "java/lang/Integer"
abbrev cJ6_bitCount_0f7a4 : ByteArray := prog_11_method_49_code
def yJ6_bitCount_0f7a4 : MethodName := ⟨RJ6, "bitCount", "(I)I"⟩
def RJ9 : String := "java/lang/Math"
abbrev cJ9_floorDiv_7cf53 : ByteArray := prog_12_method_47_code
def yJ9_floorDiv_7cf53 : MethodName := ⟨RJ9, "floorDiv", "(II)I"⟩
abbrev cJ9_abs_0f7a4 : ByteArray := prog_12_method_59_code
def yJ9_abs_0f7a4 : MethodName := ⟨RJ9, "abs", "(I)I"⟩
abbrev cJ9_max_7cf53 : ByteArray := prog_12_method_65_code
def yJ9_max_7cf53 : MethodName := ⟨RJ9, "max", "(II)I"⟩
abbrev cJ9_min_7cf53 : ByteArray := prog_12_method_69_code
def yJ9_min_7cf53 : MethodName := ⟨RJ9, "min", "(II)I"⟩
def RL : String := "RowVotesLaw"
abbrev cL_cell : ByteArray := method_2_code
def yL_cell : MethodName := ⟨RL, "cell", "([II)I"⟩
abbrev cL_has : ByteArray := method_3_code
def yL_has : MethodName := ⟨RL, "has", "(II)Z"⟩
abbrev cL_bits : ByteArray := method_4_code
def yL_bits : MethodName := ⟨RL, "bits", "(I)I"⟩
abbrev cL_blinded : ByteArray := method_5_code
def yL_blinded : MethodName := ⟨RL, "blinded", "(LRowVotes;)I"⟩
abbrev cL_camera : ByteArray := method_6_code
def yL_camera : MethodName := ⟨RL, "camera", "(LRowVotes;[I)V"⟩
abbrev cL_frameHolds : ByteArray := method_7_code
def yL_frameHolds : MethodName := ⟨RL, "frameHolds", "(LRowVotes;I)Z"⟩
abbrev cL_shoots : ByteArray := method_8_code
def yL_shoots : MethodName := ⟨RL, "shoots", "(LRowVotes;)Z"⟩
abbrev cL_folded : ByteArray := method_9_code
def yL_folded : MethodName := ⟨RL, "folded", "(LRowVotes;I)J"⟩
abbrev cL_forgets : ByteArray := method_10_code
def yL_forgets : MethodName := ⟨RL, "forgets", "(LRowVotes;I)Z"⟩
abbrev cL_turns : ByteArray := method_11_code
def yL_turns : MethodName := ⟨RL, "turns", "(LRowVotes;II)Z"⟩
abbrev cL_blinds : ByteArray := method_12_code
def yL_blinds : MethodName := ⟨RL, "blinds", "(LRowVotes;I)Z"⟩
abbrev cL_fits : ByteArray := method_13_code
def yL_fits : MethodName := ⟨RL, "fits", "(LRowVotes;I)Z"⟩
abbrev cL_law : ByteArray := code
def yL_law : MethodName := ⟨RL, "law", "([I)Z"⟩
abbrev vwCl : List vw_C := [(RX0, TX0, 3), (RX1, TX1, 11), (RX2, TX2, 4), (RX3, TX3, 10), (RX4, TX4, 10), (RX5, TX5, 6), (RX6, TX6, 4), (RX7, TX7, 8)]
theorem dX0_init_0 : decode cX0_init 0 = .ok (.aload_n 0, 1) := by decide +kernel
theorem dX0_init_1 : decode cX0_init 1 = .ok (.invokespecial 3, 3) := by decide +kernel
theorem dX0_init_4 : decode cX0_init 4 = .ok (.aload_n 0, 1) := by decide +kernel
theorem dX0_init_5 : decode cX0_init 5 = .ok (.sipush 160, 3) := by decide +kernel
theorem dX0_init_8 : decode cX0_init 8 = .ok (.newarray .int, 2) := by decide +kernel
theorem dX0_init_10 : decode cX0_init 10 = .ok (.putfield 9, 3) := by decide +kernel
theorem dX0_init_13 : decode cX0_init 13 = .ok (.return_, 1) := by decide +kernel
theorem dX0_become_0 : decode cX0_become 0 = .ok (.aload_n 0, 1) := by decide +kernel
theorem dX0_become_1 : decode cX0_become 1 = .ok (.aload_n 1, 1) := by decide +kernel
theorem dX0_become_2 : decode cX0_become 2 = .ok (.getfield 15, 3) := by decide +kernel
theorem dX0_become_5 : decode cX0_become 5 = .ok (.putfield 15, 3) := by decide +kernel
theorem dX0_become_8 : decode cX0_become 8 = .ok (.aload_n 0, 1) := by decide +kernel
theorem dX0_become_9 : decode cX0_become 9 = .ok (.aload_n 1, 1) := by decide +kernel
theorem dX0_become_10 : decode cX0_become 10 = .ok (.getfield 19, 3) := by decide +kernel
theorem dX0_become_13 : decode cX0_become 13 = .ok (.putfield 19, 3) := by decide +kernel
theorem dX0_become_16 : decode cX0_become 16 = .ok (.iconst 0, 1) := by decide +kernel
theorem dX0_become_17 : decode cX0_become 17 = .ok (.istore_n 2, 1) := by decide +kernel
theorem dX0_become_18 : decode cX0_become 18 = .ok (.iload_n 2, 1) := by decide +kernel
theorem dX0_become_19 : decode cX0_become 19 = .ok (.aload_n 0, 1) := by decide +kernel
theorem dX0_become_20 : decode cX0_become 20 = .ok (.getfield 9, 3) := by decide +kernel
theorem dX0_become_23 : decode cX0_become 23 = .ok (.arraylength, 1) := by decide +kernel
theorem dX0_become_24 : decode cX0_become 24 = .ok (.if_icmp .ge 30, 3) := by decide +kernel
theorem dX0_become_27 : decode cX0_become 27 = .ok (.iload_n 2, 1) := by decide +kernel
theorem dX0_become_28 : decode cX0_become 28 = .ok (.aload_n 1, 1) := by decide +kernel
theorem dX0_become_29 : decode cX0_become 29 = .ok (.getfield 9, 3) := by decide +kernel
theorem dX0_become_32 : decode cX0_become 32 = .ok (.arraylength, 1) := by decide +kernel
theorem dX0_become_33 : decode cX0_become 33 = .ok (.if_icmp .ge 21, 3) := by decide +kernel
theorem dX0_become_36 : decode cX0_become 36 = .ok (.aload_n 0, 1) := by decide +kernel
theorem dX0_become_37 : decode cX0_become 37 = .ok (.getfield 9, 3) := by decide +kernel
theorem dX0_become_40 : decode cX0_become 40 = .ok (.iload_n 2, 1) := by decide +kernel
theorem dX0_become_41 : decode cX0_become 41 = .ok (.aload_n 1, 1) := by decide +kernel
theorem dX0_become_42 : decode cX0_become 42 = .ok (.getfield 9, 3) := by decide +kernel
theorem dX0_become_45 : decode cX0_become 45 = .ok (.iload_n 2, 1) := by decide +kernel
theorem dX0_become_46 : decode cX0_become 46 = .ok (.iaload, 1) := by decide +kernel
theorem dX0_become_47 : decode cX0_become 47 = .ok (.iastore, 1) := by decide +kernel
theorem dX0_become_48 : decode cX0_become 48 = .ok (.iinc 2 1, 3) := by decide +kernel
theorem dX0_become_51 : decode cX0_become 51 = .ok (.goto (-33), 3) := by decide +kernel
theorem dX0_become_54 : decode cX0_become 54 = .ok (.return_, 1) := by decide +kernel
theorem dX0_pixelAt_0 : decode cX0_pixelAt 0 = .ok (.aload_n 0, 1) := by decide +kernel
theorem dX0_pixelAt_1 : decode cX0_pixelAt 1 = .ok (.getfield 9, 3) := by decide +kernel
theorem dX0_pixelAt_4 : decode cX0_pixelAt 4 = .ok (.iload_n 1, 1) := by decide +kernel
theorem dX0_pixelAt_5 : decode cX0_pixelAt 5 = .ok (.bipush 16, 2) := by decide +kernel
theorem dX0_pixelAt_7 : decode cX0_pixelAt 7 = .ok (.imul, 1) := by decide +kernel
theorem dX0_pixelAt_8 : decode cX0_pixelAt 8 = .ok (.iload_n 2, 1) := by decide +kernel
theorem dX0_pixelAt_9 : decode cX0_pixelAt 9 = .ok (.iadd, 1) := by decide +kernel
theorem dX0_pixelAt_10 : decode cX0_pixelAt 10 = .ok (.invokestatic 22, 3) := by decide +kernel
theorem dX0_pixelAt_13 : decode cX0_pixelAt 13 = .ok (.ireturn, 1) := by decide +kernel
theorem dX0_keepRow_0 : decode cX0_keepRow 0 = .ok (.iload_n 1, 1) := by decide +kernel
theorem dX0_keepRow_1 : decode cX0_keepRow 1 = .ok (.bipush 16, 2) := by decide +kernel
theorem dX0_keepRow_3 : decode cX0_keepRow 3 = .ok (.imul, 1) := by decide +kernel
theorem dX0_keepRow_4 : decode cX0_keepRow 4 = .ok (.istore 4, 2) := by decide +kernel
theorem dX0_keepRow_6 : decode cX0_keepRow 6 = .ok (.iconst 0, 1) := by decide +kernel
theorem dX0_keepRow_7 : decode cX0_keepRow 7 = .ok (.istore 5, 2) := by decide +kernel
theorem dX0_keepRow_9 : decode cX0_keepRow 9 = .ok (.iload 5, 2) := by decide +kernel
theorem dX0_keepRow_11 : decode cX0_keepRow 11 = .ok (.aload_n 2, 1) := by decide +kernel
theorem dX0_keepRow_12 : decode cX0_keepRow 12 = .ok (.arraylength, 1) := by decide +kernel
theorem dX0_keepRow_13 : decode cX0_keepRow 13 = .ok (.if_icmp .ge 46, 3) := by decide +kernel
theorem dX0_keepRow_16 : decode cX0_keepRow 16 = .ok (.iload 4, 2) := by decide +kernel
theorem dX0_keepRow_18 : decode cX0_keepRow 18 = .ok (.iload 5, 2) := by decide +kernel
theorem dX0_keepRow_20 : decode cX0_keepRow 20 = .ok (.iadd, 1) := by decide +kernel
theorem dX0_keepRow_21 : decode cX0_keepRow 21 = .ok (.istore 6, 2) := by decide +kernel
theorem dX0_keepRow_23 : decode cX0_keepRow 23 = .ok (.iload 6, 2) := by decide +kernel
theorem dX0_keepRow_25 : decode cX0_keepRow 25 = .ok (.ifCond .lt 28, 3) := by decide +kernel
theorem dX0_keepRow_28 : decode cX0_keepRow 28 = .ok (.iload 6, 2) := by decide +kernel
theorem dX0_keepRow_30 : decode cX0_keepRow 30 = .ok (.aload_n 0, 1) := by decide +kernel
theorem dX0_keepRow_31 : decode cX0_keepRow 31 = .ok (.getfield 9, 3) := by decide +kernel
theorem dX0_keepRow_34 : decode cX0_keepRow 34 = .ok (.arraylength, 1) := by decide +kernel
theorem dX0_keepRow_35 : decode cX0_keepRow 35 = .ok (.if_icmp .ge 18, 3) := by decide +kernel
theorem dX0_keepRow_38 : decode cX0_keepRow 38 = .ok (.aload_n 0, 1) := by decide +kernel
theorem dX0_keepRow_39 : decode cX0_keepRow 39 = .ok (.getfield 9, 3) := by decide +kernel
theorem dX0_keepRow_42 : decode cX0_keepRow 42 = .ok (.iload 6, 2) := by decide +kernel
theorem dX0_keepRow_44 : decode cX0_keepRow 44 = .ok (.aload_n 2, 1) := by decide +kernel
theorem dX0_keepRow_45 : decode cX0_keepRow 45 = .ok (.iload 5, 2) := by decide +kernel
theorem dX0_keepRow_47 : decode cX0_keepRow 47 = .ok (.iaload, 1) := by decide +kernel
theorem dX0_keepRow_48 : decode cX0_keepRow 48 = .ok (.iload_n 3, 1) := by decide +kernel
theorem dX0_keepRow_49 : decode cX0_keepRow 49 = .ok (.invokestatic 26, 3) := by decide +kernel
theorem dX0_keepRow_52 : decode cX0_keepRow 52 = .ok (.iastore, 1) := by decide +kernel
theorem dX0_keepRow_53 : decode cX0_keepRow 53 = .ok (.iinc 5 1, 3) := by decide +kernel
theorem dX0_keepRow_56 : decode cX0_keepRow 56 = .ok (.goto (-47), 3) := by decide +kernel
theorem dX0_keepRow_59 : decode cX0_keepRow 59 = .ok (.return_, 1) := by decide +kernel
theorem dX1_init_0 : decode cX1_init 0 = .ok (.aload_n 0, 1) := by decide +kernel
theorem dX1_init_1 : decode cX1_init 1 = .ok (.invokespecial 3, 3) := by decide +kernel
theorem dX1_init_4 : decode cX1_init 4 = .ok (.aload_n 0, 1) := by decide +kernel
theorem dX1_init_5 : decode cX1_init 5 = .ok (.bipush 50, 2) := by decide +kernel
theorem dX1_init_7 : decode cX1_init 7 = .ok (.newarray .int, 2) := by decide +kernel
theorem dX1_init_9 : decode cX1_init 9 = .ok (.putfield 9, 3) := by decide +kernel
theorem dX1_init_12 : decode cX1_init 12 = .ok (.aload_n 0, 1) := by decide +kernel
theorem dX1_init_13 : decode cX1_init 13 = .ok (.bipush 50, 2) := by decide +kernel
theorem dX1_init_15 : decode cX1_init 15 = .ok (.newarray .int, 2) := by decide +kernel
theorem dX1_init_17 : decode cX1_init 17 = .ok (.putfield 15, 3) := by decide +kernel
theorem dX1_init_20 : decode cX1_init 20 = .ok (.aload_n 0, 1) := by decide +kernel
theorem dX1_init_21 : decode cX1_init 21 = .ok (.bipush 50, 2) := by decide +kernel
theorem dX1_init_23 : decode cX1_init 23 = .ok (.newarray .int, 2) := by decide +kernel
theorem dX1_init_25 : decode cX1_init 25 = .ok (.putfield 18, 3) := by decide +kernel
theorem dX1_init_28 : decode cX1_init 28 = .ok (.aload_n 0, 1) := by decide +kernel
theorem dX1_init_29 : decode cX1_init 29 = .ok (.bipush 16, 2) := by decide +kernel
theorem dX1_init_31 : decode cX1_init 31 = .ok (.newarray .int, 2) := by decide +kernel
theorem dX1_init_33 : decode cX1_init 33 = .ok (.putfield 21, 3) := by decide +kernel
theorem dX1_init_36 : decode cX1_init 36 = .ok (.aload_n 0, 1) := by decide +kernel
theorem dX1_init_37 : decode cX1_init 37 = .ok (.bipush 16, 2) := by decide +kernel
theorem dX1_init_39 : decode cX1_init 39 = .ok (.newarray .int, 2) := by decide +kernel
theorem dX1_init_41 : decode cX1_init 41 = .ok (.putfield 24, 3) := by decide +kernel
theorem dX1_init_44 : decode cX1_init 44 = .ok (.return_, 1) := by decide +kernel
theorem dX1_run_0 : decode cX1_run 0 = .ok (.aload_n 1, 1) := by decide +kernel
theorem dX1_run_1 : decode cX1_run 1 = .ok (.iload_n 2, 1) := by decide +kernel
theorem dX1_run_2 : decode cX1_run 2 = .ok (.invokevirtual 27, 3) := by decide +kernel
theorem dX1_run_5 : decode cX1_run 5 = .ok (.astore_n 3, 1) := by decide +kernel
theorem dX1_run_6 : decode cX1_run 6 = .ok (.aload_n 0, 1) := by decide +kernel
theorem dX1_run_7 : decode cX1_run 7 = .ok (.iconst 0, 1) := by decide +kernel
theorem dX1_run_8 : decode cX1_run 8 = .ok (.putfield 33, 3) := by decide +kernel
theorem dX1_run_11 : decode cX1_run 11 = .ok (.aload_n 3, 1) := by decide +kernel
theorem dX1_run_12 : decode cX1_run 12 = .ok (.ifnonnull 4, 3) := by decide +kernel
theorem dX1_run_15 : decode cX1_run 15 = .ok (.return_, 1) := by decide +kernel
theorem dX1_run_16 : decode cX1_run 16 = .ok (.aload_n 0, 1) := by decide +kernel
theorem dX1_run_17 : decode cX1_run 17 = .ok (.aload_n 1, 1) := by decide +kernel
theorem dX1_run_18 : decode cX1_run 18 = .ok (.iload_n 2, 1) := by decide +kernel
theorem dX1_run_19 : decode cX1_run 19 = .ok (.invokevirtual 37, 3) := by decide +kernel
theorem dX1_run_22 : decode cX1_run 22 = .ok (.sipush (-1000), 3) := by decide +kernel
theorem dX1_run_25 : decode cX1_run 25 = .ok (.istore 4, 2) := by decide +kernel
theorem dX1_run_27 : decode cX1_run 27 = .ok (.iload 4, 2) := by decide +kernel
theorem dX1_run_29 : decode cX1_run 29 = .ok (.sipush 2400, 3) := by decide +kernel
theorem dX1_run_32 : decode cX1_run 32 = .ok (.if_icmp .gt 49, 3) := by decide +kernel
theorem dX1_run_35 : decode cX1_run 35 = .ok (.bipush (-100), 2) := by decide +kernel
theorem dX1_run_37 : decode cX1_run 37 = .ok (.istore 5, 2) := by decide +kernel
theorem dX1_run_39 : decode cX1_run 39 = .ok (.iload 5, 2) := by decide +kernel
theorem dX1_run_41 : decode cX1_run 41 = .ok (.bipush 100, 2) := by decide +kernel
theorem dX1_run_43 : decode cX1_run 43 = .ok (.if_icmp .gt 32, 3) := by decide +kernel
theorem dX1_run_46 : decode cX1_run 46 = .ok (.aload_n 0, 1) := by decide +kernel
theorem dX1_run_47 : decode cX1_run 47 = .ok (.iload 4, 2) := by decide +kernel
theorem dX1_run_49 : decode cX1_run 49 = .ok (.iload 5, 2) := by decide +kernel
theorem dX1_run_51 : decode cX1_run 51 = .ok (.aload_n 3, 1) := by decide +kernel
theorem dX1_run_52 : decode cX1_run 52 = .ok (.getfield 41, 3) := by decide +kernel
theorem dX1_run_55 : decode cX1_run 55 = .ok (.invokevirtual 46, 3) := by decide +kernel
theorem dX1_run_58 : decode cX1_run 58 = .ok (.ifCond .eq 11, 3) := by decide +kernel
theorem dX1_run_61 : decode cX1_run 61 = .ok (.aload_n 0, 1) := by decide +kernel
theorem dX1_run_62 : decode cX1_run 62 = .ok (.iload 4, 2) := by decide +kernel
theorem dX1_run_64 : decode cX1_run 64 = .ok (.iload 5, 2) := by decide +kernel
theorem dX1_run_66 : decode cX1_run 66 = .ok (.invokevirtual 50, 3) := by decide +kernel
theorem dX1_run_69 : decode cX1_run 69 = .ok (.iinc 5 10, 3) := by decide +kernel
theorem dX1_run_72 : decode cX1_run 72 = .ok (.goto (-33), 3) := by decide +kernel
theorem dX1_run_75 : decode cX1_run 75 = .ok (.iinc 4 100, 3) := by decide +kernel
theorem dX1_run_78 : decode cX1_run 78 = .ok (.goto (-51), 3) := by decide +kernel
theorem dX1_run_81 : decode cX1_run 81 = .ok (.return_, 1) := by decide +kernel
theorem dX1_isVain_0 : decode cX1_isVain 0 = .ok (.aload_n 0, 1) := by decide +kernel
theorem dX1_isVain_1 : decode cX1_isVain 1 = .ok (.getfield 33, 3) := by decide +kernel
theorem dX1_isVain_4 : decode cX1_isVain 4 = .ok (.ifCond .ne 7, 3) := by decide +kernel
theorem dX1_isVain_7 : decode cX1_isVain 7 = .ok (.iconst 1, 1) := by decide +kernel
theorem dX1_isVain_8 : decode cX1_isVain 8 = .ok (.goto 4, 3) := by decide +kernel
theorem dX1_isVain_11 : decode cX1_isVain 11 = .ok (.iconst 0, 1) := by decide +kernel
theorem dX1_isVain_12 : decode cX1_isVain 12 = .ok (.ireturn, 1) := by decide +kernel
theorem dX1_answer_0 : decode cX1_answer 0 = .ok (.iload_n 1, 1) := by decide +kernel
theorem dX1_answer_1 : decode cX1_answer 1 = .ok (.tableswitch 51 0 3 #[31, 36, 41, 46], 31) := by decide +kernel
theorem dX1_answer_32 : decode cX1_answer 32 = .ok (.aload_n 0, 1) := by decide +kernel
theorem dX1_answer_33 : decode cX1_answer 33 = .ok (.getfield 33, 3) := by decide +kernel
theorem dX1_answer_36 : decode cX1_answer 36 = .ok (.ireturn, 1) := by decide +kernel
theorem dX1_answer_37 : decode cX1_answer 37 = .ok (.aload_n 0, 1) := by decide +kernel
theorem dX1_answer_38 : decode cX1_answer 38 = .ok (.getfield 54, 3) := by decide +kernel
theorem dX1_answer_41 : decode cX1_answer 41 = .ok (.ireturn, 1) := by decide +kernel
theorem dX1_answer_42 : decode cX1_answer 42 = .ok (.aload_n 0, 1) := by decide +kernel
theorem dX1_answer_43 : decode cX1_answer 43 = .ok (.getfield 57, 3) := by decide +kernel
theorem dX1_answer_46 : decode cX1_answer 46 = .ok (.ireturn, 1) := by decide +kernel
theorem dX1_answer_47 : decode cX1_answer 47 = .ok (.aload_n 0, 1) := by decide +kernel
theorem dX1_answer_48 : decode cX1_answer 48 = .ok (.getfield 60, 3) := by decide +kernel
theorem dX1_answer_51 : decode cX1_answer 51 = .ok (.ireturn, 1) := by decide +kernel
theorem dX1_answer_52 : decode cX1_answer 52 = .ok (.aload_n 0, 1) := by decide +kernel
theorem dX1_answer_53 : decode cX1_answer 53 = .ok (.getfield 63, 3) := by decide +kernel
theorem dX1_answer_56 : decode cX1_answer 56 = .ok (.ireturn, 1) := by decide +kernel
theorem dX1_gatherDemands_0 : decode cX1_gatherDemands 0 = .ok (.aload_n 0, 1) := by decide +kernel
theorem dX1_gatherDemands_1 : decode cX1_gatherDemands 1 = .ok (.iconst 0, 1) := by decide +kernel
theorem dX1_gatherDemands_2 : decode cX1_gatherDemands 2 = .ok (.putfield 66, 3) := by decide +kernel
theorem dX1_gatherDemands_5 : decode cX1_gatherDemands 5 = .ok (.iconst 0, 1) := by decide +kernel
theorem dX1_gatherDemands_6 : decode cX1_gatherDemands 6 = .ok (.istore_n 3, 1) := by decide +kernel
theorem dX1_gatherDemands_7 : decode cX1_gatherDemands 7 = .ok (.iload_n 3, 1) := by decide +kernel
theorem dX1_gatherDemands_8 : decode cX1_gatherDemands 8 = .ok (.aload_n 1, 1) := by decide +kernel
theorem dX1_gatherDemands_9 : decode cX1_gatherDemands 9 = .ok (.getfield 69, 3) := by decide +kernel
theorem dX1_gatherDemands_12 : decode cX1_gatherDemands 12 = .ok (.if_icmp .ge 63, 3) := by decide +kernel
theorem dX1_gatherDemands_15 : decode cX1_gatherDemands 15 = .ok (.aload_n 1, 1) := by decide +kernel
theorem dX1_gatherDemands_16 : decode cX1_gatherDemands 16 = .ok (.iload_n 3, 1) := by decide +kernel
theorem dX1_gatherDemands_17 : decode cX1_gatherDemands 17 = .ok (.invokevirtual 72, 3) := by decide +kernel
theorem dX1_gatherDemands_20 : decode cX1_gatherDemands 20 = .ok (.astore 4, 2) := by decide +kernel
theorem dX1_gatherDemands_22 : decode cX1_gatherDemands 22 = .ok (.iconst 0, 1) := by decide +kernel
theorem dX1_gatherDemands_23 : decode cX1_gatherDemands 23 = .ok (.istore 5, 2) := by decide +kernel
theorem dX1_gatherDemands_25 : decode cX1_gatherDemands 25 = .ok (.aload 4, 2) := by decide +kernel
theorem dX1_gatherDemands_27 : decode cX1_gatherDemands 27 = .ok (.ifnull 42, 3) := by decide +kernel
theorem dX1_gatherDemands_30 : decode cX1_gatherDemands 30 = .ok (.iload 5, 2) := by decide +kernel
theorem dX1_gatherDemands_32 : decode cX1_gatherDemands 32 = .ok (.aload_n 1, 1) := by decide +kernel
theorem dX1_gatherDemands_33 : decode cX1_gatherDemands 33 = .ok (.iconst 0, 1) := by decide +kernel
theorem dX1_gatherDemands_34 : decode cX1_gatherDemands 34 = .ok (.invokevirtual 76, 3) := by decide +kernel
theorem dX1_gatherDemands_37 : decode cX1_gatherDemands 37 = .ok (.if_icmp .ge 32, 3) := by decide +kernel
theorem dX1_gatherDemands_40 : decode cX1_gatherDemands 40 = .ok (.aload 4, 2) := by decide +kernel
theorem dX1_gatherDemands_42 : decode cX1_gatherDemands 42 = .ok (.getfield 80, 3) := by decide +kernel
theorem dX1_gatherDemands_45 : decode cX1_gatherDemands 45 = .ok (.iload 5, 2) := by decide +kernel
theorem dX1_gatherDemands_47 : decode cX1_gatherDemands 47 = .ok (.invokestatic 85, 3) := by decide +kernel
theorem dX1_gatherDemands_50 : decode cX1_gatherDemands 50 = .ok (.ifCond .ne 13, 3) := by decide +kernel
theorem dX1_gatherDemands_53 : decode cX1_gatherDemands 53 = .ok (.aload_n 0, 1) := by decide +kernel
theorem dX1_gatherDemands_54 : decode cX1_gatherDemands 54 = .ok (.aload_n 1, 1) := by decide +kernel
theorem dX1_gatherDemands_55 : decode cX1_gatherDemands 55 = .ok (.iload_n 2, 1) := by decide +kernel
theorem dX1_gatherDemands_56 : decode cX1_gatherDemands 56 = .ok (.aload 4, 2) := by decide +kernel
theorem dX1_gatherDemands_58 : decode cX1_gatherDemands 58 = .ok (.iload 5, 2) := by decide +kernel
theorem dX1_gatherDemands_60 : decode cX1_gatherDemands 60 = .ok (.invokevirtual 89, 3) := by decide +kernel
theorem dX1_gatherDemands_63 : decode cX1_gatherDemands 63 = .ok (.iinc 5 1, 3) := by decide +kernel
theorem dX1_gatherDemands_66 : decode cX1_gatherDemands 66 = .ok (.goto (-41), 3) := by decide +kernel
theorem dX1_gatherDemands_69 : decode cX1_gatherDemands 69 = .ok (.iinc 3 1, 3) := by decide +kernel
theorem dX1_gatherDemands_72 : decode cX1_gatherDemands 72 = .ok (.goto (-65), 3) := by decide +kernel
theorem dX1_gatherDemands_75 : decode cX1_gatherDemands 75 = .ok (.return_, 1) := by decide +kernel
theorem dX1_addDemand_0 : decode cX1_addDemand 0 = .ok (.aload_n 1, 1) := by decide +kernel
theorem dX1_addDemand_1 : decode cX1_addDemand 1 = .ok (.aload_n 3, 1) := by decide +kernel
theorem dX1_addDemand_2 : decode cX1_addDemand 2 = .ok (.iload 4, 2) := by decide +kernel
theorem dX1_addDemand_4 : decode cX1_addDemand 4 = .ok (.invokevirtual 93, 3) := by decide +kernel
theorem dX1_addDemand_7 : decode cX1_addDemand 7 = .ok (.istore 5, 2) := by decide +kernel
theorem dX1_addDemand_9 : decode cX1_addDemand 9 = .ok (.aload_n 1, 1) := by decide +kernel
theorem dX1_addDemand_10 : decode cX1_addDemand 10 = .ok (.iload 5, 2) := by decide +kernel
theorem dX1_addDemand_12 : decode cX1_addDemand 12 = .ok (.invokevirtual 97, 3) := by decide +kernel
theorem dX1_addDemand_15 : decode cX1_addDemand 15 = .ok (.istore 6, 2) := by decide +kernel
theorem dX1_addDemand_17 : decode cX1_addDemand 17 = .ok (.iconst 0, 1) := by decide +kernel
theorem dX1_addDemand_18 : decode cX1_addDemand 18 = .ok (.istore 7, 2) := by decide +kernel
theorem dX1_addDemand_20 : decode cX1_addDemand 20 = .ok (.iconst 0, 1) := by decide +kernel
theorem dX1_addDemand_21 : decode cX1_addDemand 21 = .ok (.istore 8, 2) := by decide +kernel
theorem dX1_addDemand_23 : decode cX1_addDemand 23 = .ok (.aload_n 1, 1) := by decide +kernel
theorem dX1_addDemand_24 : decode cX1_addDemand 24 = .ok (.iload 4, 2) := by decide +kernel
theorem dX1_addDemand_26 : decode cX1_addDemand 26 = .ok (.iload 5, 2) := by decide +kernel
theorem dX1_addDemand_28 : decode cX1_addDemand 28 = .ok (.iload_n 2, 1) := by decide +kernel
theorem dX1_addDemand_29 : decode cX1_addDemand 29 = .ok (.iconst 0, 1) := by decide +kernel
theorem dX1_addDemand_30 : decode cX1_addDemand 30 = .ok (.aload_n 0, 1) := by decide +kernel
theorem dX1_addDemand_31 : decode cX1_addDemand 31 = .ok (.getfield 21, 3) := by decide +kernel
theorem dX1_addDemand_34 : decode cX1_addDemand 34 = .ok (.invokevirtual 100, 3) := by decide +kernel
theorem dX1_addDemand_37 : decode cX1_addDemand 37 = .ok (.aload_n 1, 1) := by decide +kernel
theorem dX1_addDemand_38 : decode cX1_addDemand 38 = .ok (.iload 4, 2) := by decide +kernel
theorem dX1_addDemand_40 : decode cX1_addDemand 40 = .ok (.iload 5, 2) := by decide +kernel
theorem dX1_addDemand_42 : decode cX1_addDemand 42 = .ok (.iload_n 2, 1) := by decide +kernel
theorem dX1_addDemand_43 : decode cX1_addDemand 43 = .ok (.ldc 104, 2) := by decide +kernel
theorem dX1_addDemand_45 : decode cX1_addDemand 45 = .ok (.aload_n 0, 1) := by decide +kernel
theorem dX1_addDemand_46 : decode cX1_addDemand 46 = .ok (.getfield 24, 3) := by decide +kernel
theorem dX1_addDemand_49 : decode cX1_addDemand 49 = .ok (.invokevirtual 100, 3) := by decide +kernel
theorem dX1_addDemand_52 : decode cX1_addDemand 52 = .ok (.iconst 0, 1) := by decide +kernel
theorem dX1_addDemand_53 : decode cX1_addDemand 53 = .ok (.istore 9, 2) := by decide +kernel
theorem dX1_addDemand_55 : decode cX1_addDemand 55 = .ok (.iload 9, 2) := by decide +kernel
theorem dX1_addDemand_57 : decode cX1_addDemand 57 = .ok (.aload_n 1, 1) := by decide +kernel
theorem dX1_addDemand_58 : decode cX1_addDemand 58 = .ok (.iconst 1, 1) := by decide +kernel
theorem dX1_addDemand_59 : decode cX1_addDemand 59 = .ok (.invokevirtual 76, 3) := by decide +kernel
theorem dX1_addDemand_62 : decode cX1_addDemand 62 = .ok (.if_icmp .ge 75, 3) := by decide +kernel
theorem dX1_addDemand_65 : decode cX1_addDemand 65 = .ok (.aload_n 3, 1) := by decide +kernel
theorem dX1_addDemand_66 : decode cX1_addDemand 66 = .ok (.iload 4, 2) := by decide +kernel
theorem dX1_addDemand_68 : decode cX1_addDemand 68 = .ok (.iload 9, 2) := by decide +kernel
theorem dX1_addDemand_70 : decode cX1_addDemand 70 = .ok (.invokevirtual 105, 3) := by decide +kernel
theorem dX1_addDemand_73 : decode cX1_addDemand 73 = .ok (.istore 10, 2) := by decide +kernel
theorem dX1_addDemand_75 : decode cX1_addDemand 75 = .ok (.aload_n 0, 1) := by decide +kernel
theorem dX1_addDemand_76 : decode cX1_addDemand 76 = .ok (.getfield 21, 3) := by decide +kernel
theorem dX1_addDemand_79 : decode cX1_addDemand 79 = .ok (.iload 9, 2) := by decide +kernel
theorem dX1_addDemand_81 : decode cX1_addDemand 81 = .ok (.invokestatic 109, 3) := by decide +kernel
theorem dX1_addDemand_84 : decode cX1_addDemand 84 = .ok (.iload 6, 2) := by decide +kernel
theorem dX1_addDemand_86 : decode cX1_addDemand 86 = .ok (.invokestatic 113, 3) := by decide +kernel
theorem dX1_addDemand_89 : decode cX1_addDemand 89 = .ok (.iload 10, 2) := by decide +kernel
theorem dX1_addDemand_91 : decode cX1_addDemand 91 = .ok (.if_icmp .eq 12, 3) := by decide +kernel
theorem dX1_addDemand_94 : decode cX1_addDemand 94 = .ok (.iload 7, 2) := by decide +kernel
theorem dX1_addDemand_96 : decode cX1_addDemand 96 = .ok (.iconst 1, 1) := by decide +kernel
theorem dX1_addDemand_97 : decode cX1_addDemand 97 = .ok (.iload 9, 2) := by decide +kernel
theorem dX1_addDemand_99 : decode cX1_addDemand 99 = .ok (.ishl, 1) := by decide +kernel
theorem dX1_addDemand_100 : decode cX1_addDemand 100 = .ok (.ior, 1) := by decide +kernel
theorem dX1_addDemand_101 : decode cX1_addDemand 101 = .ok (.istore 7, 2) := by decide +kernel
theorem dX1_addDemand_103 : decode cX1_addDemand 103 = .ok (.aload_n 0, 1) := by decide +kernel
theorem dX1_addDemand_104 : decode cX1_addDemand 104 = .ok (.getfield 24, 3) := by decide +kernel
theorem dX1_addDemand_107 : decode cX1_addDemand 107 = .ok (.iload 9, 2) := by decide +kernel
theorem dX1_addDemand_109 : decode cX1_addDemand 109 = .ok (.invokestatic 109, 3) := by decide +kernel
theorem dX1_addDemand_112 : decode cX1_addDemand 112 = .ok (.iload 6, 2) := by decide +kernel
theorem dX1_addDemand_114 : decode cX1_addDemand 114 = .ok (.invokestatic 113, 3) := by decide +kernel
theorem dX1_addDemand_117 : decode cX1_addDemand 117 = .ok (.iload 10, 2) := by decide +kernel
theorem dX1_addDemand_119 : decode cX1_addDemand 119 = .ok (.if_icmp .eq 12, 3) := by decide +kernel
theorem dX1_addDemand_122 : decode cX1_addDemand 122 = .ok (.iload 8, 2) := by decide +kernel
theorem dX1_addDemand_124 : decode cX1_addDemand 124 = .ok (.iconst 1, 1) := by decide +kernel
theorem dX1_addDemand_125 : decode cX1_addDemand 125 = .ok (.iload 9, 2) := by decide +kernel
theorem dX1_addDemand_127 : decode cX1_addDemand 127 = .ok (.ishl, 1) := by decide +kernel
theorem dX1_addDemand_128 : decode cX1_addDemand 128 = .ok (.ior, 1) := by decide +kernel
theorem dX1_addDemand_129 : decode cX1_addDemand 129 = .ok (.istore 8, 2) := by decide +kernel
theorem dX1_addDemand_131 : decode cX1_addDemand 131 = .ok (.iinc 9 1, 3) := by decide +kernel
theorem dX1_addDemand_134 : decode cX1_addDemand 134 = .ok (.goto (-79), 3) := by decide +kernel
theorem dX1_addDemand_137 : decode cX1_addDemand 137 = .ok (.aload_n 0, 1) := by decide +kernel
theorem dX1_addDemand_138 : decode cX1_addDemand 138 = .ok (.getfield 66, 3) := by decide +kernel
theorem dX1_addDemand_141 : decode cX1_addDemand 141 = .ok (.aload_n 0, 1) := by decide +kernel
theorem dX1_addDemand_142 : decode cX1_addDemand 142 = .ok (.getfield 9, 3) := by decide +kernel
theorem dX1_addDemand_145 : decode cX1_addDemand 145 = .ok (.arraylength, 1) := by decide +kernel
theorem dX1_addDemand_146 : decode cX1_addDemand 146 = .ok (.if_icmp .ge 70, 3) := by decide +kernel
theorem dX1_addDemand_149 : decode cX1_addDemand 149 = .ok (.aload_n 0, 1) := by decide +kernel
theorem dX1_addDemand_150 : decode cX1_addDemand 150 = .ok (.getfield 66, 3) := by decide +kernel
theorem dX1_addDemand_153 : decode cX1_addDemand 153 = .ok (.aload_n 0, 1) := by decide +kernel
theorem dX1_addDemand_154 : decode cX1_addDemand 154 = .ok (.getfield 15, 3) := by decide +kernel
theorem dX1_addDemand_157 : decode cX1_addDemand 157 = .ok (.arraylength, 1) := by decide +kernel
theorem dX1_addDemand_158 : decode cX1_addDemand 158 = .ok (.if_icmp .ge 58, 3) := by decide +kernel
theorem dX1_addDemand_161 : decode cX1_addDemand 161 = .ok (.aload_n 0, 1) := by decide +kernel
theorem dX1_addDemand_162 : decode cX1_addDemand 162 = .ok (.getfield 66, 3) := by decide +kernel
theorem dX1_addDemand_165 : decode cX1_addDemand 165 = .ok (.aload_n 0, 1) := by decide +kernel
theorem dX1_addDemand_166 : decode cX1_addDemand 166 = .ok (.getfield 18, 3) := by decide +kernel
theorem dX1_addDemand_169 : decode cX1_addDemand 169 = .ok (.arraylength, 1) := by decide +kernel
theorem dX1_addDemand_170 : decode cX1_addDemand 170 = .ok (.if_icmp .ge 46, 3) := by decide +kernel
theorem dX1_addDemand_173 : decode cX1_addDemand 173 = .ok (.aload_n 0, 1) := by decide +kernel
theorem dX1_addDemand_174 : decode cX1_addDemand 174 = .ok (.getfield 9, 3) := by decide +kernel
theorem dX1_addDemand_177 : decode cX1_addDemand 177 = .ok (.aload_n 0, 1) := by decide +kernel
theorem dX1_addDemand_178 : decode cX1_addDemand 178 = .ok (.getfield 66, 3) := by decide +kernel
theorem dX1_addDemand_181 : decode cX1_addDemand 181 = .ok (.iload 5, 2) := by decide +kernel
theorem dX1_addDemand_183 : decode cX1_addDemand 183 = .ok (.iastore, 1) := by decide +kernel
theorem dX1_addDemand_184 : decode cX1_addDemand 184 = .ok (.aload_n 0, 1) := by decide +kernel
theorem dX1_addDemand_185 : decode cX1_addDemand 185 = .ok (.getfield 15, 3) := by decide +kernel
theorem dX1_addDemand_188 : decode cX1_addDemand 188 = .ok (.aload_n 0, 1) := by decide +kernel
theorem dX1_addDemand_189 : decode cX1_addDemand 189 = .ok (.getfield 66, 3) := by decide +kernel
theorem dX1_addDemand_192 : decode cX1_addDemand 192 = .ok (.iload 7, 2) := by decide +kernel
theorem dX1_addDemand_194 : decode cX1_addDemand 194 = .ok (.iastore, 1) := by decide +kernel
theorem dX1_addDemand_195 : decode cX1_addDemand 195 = .ok (.aload_n 0, 1) := by decide +kernel
theorem dX1_addDemand_196 : decode cX1_addDemand 196 = .ok (.getfield 18, 3) := by decide +kernel
theorem dX1_addDemand_199 : decode cX1_addDemand 199 = .ok (.aload_n 0, 1) := by decide +kernel
theorem dX1_addDemand_200 : decode cX1_addDemand 200 = .ok (.getfield 66, 3) := by decide +kernel
theorem dX1_addDemand_203 : decode cX1_addDemand 203 = .ok (.iload 8, 2) := by decide +kernel
theorem dX1_addDemand_205 : decode cX1_addDemand 205 = .ok (.iastore, 1) := by decide +kernel
theorem dX1_addDemand_206 : decode cX1_addDemand 206 = .ok (.aload_n 0, 1) := by decide +kernel
theorem dX1_addDemand_207 : decode cX1_addDemand 207 = .ok (.dup, 1) := by decide +kernel
theorem dX1_addDemand_208 : decode cX1_addDemand 208 = .ok (.getfield 66, 3) := by decide +kernel
theorem dX1_addDemand_211 : decode cX1_addDemand 211 = .ok (.iconst 1, 1) := by decide +kernel
theorem dX1_addDemand_212 : decode cX1_addDemand 212 = .ok (.iadd, 1) := by decide +kernel
theorem dX1_addDemand_213 : decode cX1_addDemand 213 = .ok (.putfield 66, 3) := by decide +kernel
theorem dX1_addDemand_216 : decode cX1_addDemand 216 = .ok (.return_, 1) := by decide +kernel
theorem dX1_meetsDemands_0 : decode cX1_meetsDemands 0 = .ok (.iconst 0, 1) := by decide +kernel
theorem dX1_meetsDemands_1 : decode cX1_meetsDemands 1 = .ok (.istore 4, 2) := by decide +kernel
theorem dX1_meetsDemands_3 : decode cX1_meetsDemands 3 = .ok (.iload 4, 2) := by decide +kernel
theorem dX1_meetsDemands_5 : decode cX1_meetsDemands 5 = .ok (.aload_n 0, 1) := by decide +kernel
theorem dX1_meetsDemands_6 : decode cX1_meetsDemands 6 = .ok (.getfield 66, 3) := by decide +kernel
theorem dX1_meetsDemands_9 : decode cX1_meetsDemands 9 = .ok (.if_icmp .ge 62, 3) := by decide +kernel
theorem dX1_meetsDemands_12 : decode cX1_meetsDemands 12 = .ok (.iload_n 1, 1) := by decide +kernel
theorem dX1_meetsDemands_13 : decode cX1_meetsDemands 13 = .ok (.iload_n 2, 1) := by decide +kernel
theorem dX1_meetsDemands_14 : decode cX1_meetsDemands 14 = .ok (.aload_n 0, 1) := by decide +kernel
theorem dX1_meetsDemands_15 : decode cX1_meetsDemands 15 = .ok (.getfield 9, 3) := by decide +kernel
theorem dX1_meetsDemands_18 : decode cX1_meetsDemands 18 = .ok (.iload 4, 2) := by decide +kernel
theorem dX1_meetsDemands_20 : decode cX1_meetsDemands 20 = .ok (.invokestatic 109, 3) := by decide +kernel
theorem dX1_meetsDemands_23 : decode cX1_meetsDemands 23 = .ok (.imul, 1) := by decide +kernel
theorem dX1_meetsDemands_24 : decode cX1_meetsDemands 24 = .ok (.iadd, 1) := by decide +kernel
theorem dX1_meetsDemands_25 : decode cX1_meetsDemands 25 = .ok (.iload_n 3, 1) := by decide +kernel
theorem dX1_meetsDemands_26 : decode cX1_meetsDemands 26 = .ok (.invokestatic 116, 3) := by decide +kernel
theorem dX1_meetsDemands_29 : decode cX1_meetsDemands 29 = .ok (.istore 5, 2) := by decide +kernel
theorem dX1_meetsDemands_31 : decode cX1_meetsDemands 31 = .ok (.iload 5, 2) := by decide +kernel
theorem dX1_meetsDemands_33 : decode cX1_meetsDemands 33 = .ok (.aload_n 0, 1) := by decide +kernel
theorem dX1_meetsDemands_34 : decode cX1_meetsDemands 34 = .ok (.getfield 18, 3) := by decide +kernel
theorem dX1_meetsDemands_37 : decode cX1_meetsDemands 37 = .ok (.iload 4, 2) := by decide +kernel
theorem dX1_meetsDemands_39 : decode cX1_meetsDemands 39 = .ok (.invokestatic 109, 3) := by decide +kernel
theorem dX1_meetsDemands_42 : decode cX1_meetsDemands 42 = .ok (.iand, 1) := by decide +kernel
theorem dX1_meetsDemands_43 : decode cX1_meetsDemands 43 = .ok (.ifCond .ne 20, 3) := by decide +kernel
theorem dX1_meetsDemands_46 : decode cX1_meetsDemands 46 = .ok (.aload_n 0, 1) := by decide +kernel
theorem dX1_meetsDemands_47 : decode cX1_meetsDemands 47 = .ok (.getfield 15, 3) := by decide +kernel
theorem dX1_meetsDemands_50 : decode cX1_meetsDemands 50 = .ok (.iload 4, 2) := by decide +kernel
theorem dX1_meetsDemands_52 : decode cX1_meetsDemands 52 = .ok (.invokestatic 109, 3) := by decide +kernel
theorem dX1_meetsDemands_55 : decode cX1_meetsDemands 55 = .ok (.iload 5, 2) := by decide +kernel
theorem dX1_meetsDemands_57 : decode cX1_meetsDemands 57 = .ok (.iconst (-1), 1) := by decide +kernel
theorem dX1_meetsDemands_58 : decode cX1_meetsDemands 58 = .ok (.ixor, 1) := by decide +kernel
theorem dX1_meetsDemands_59 : decode cX1_meetsDemands 59 = .ok (.iand, 1) := by decide +kernel
theorem dX1_meetsDemands_60 : decode cX1_meetsDemands 60 = .ok (.ifCond .eq 5, 3) := by decide +kernel
theorem dX1_meetsDemands_63 : decode cX1_meetsDemands 63 = .ok (.iconst 0, 1) := by decide +kernel
theorem dX1_meetsDemands_64 : decode cX1_meetsDemands 64 = .ok (.ireturn, 1) := by decide +kernel
theorem dX1_meetsDemands_65 : decode cX1_meetsDemands 65 = .ok (.iinc 4 1, 3) := by decide +kernel
theorem dX1_meetsDemands_68 : decode cX1_meetsDemands 68 = .ok (.goto (-65), 3) := by decide +kernel
theorem dX1_meetsDemands_71 : decode cX1_meetsDemands 71 = .ok (.iconst 1, 1) := by decide +kernel
theorem dX1_meetsDemands_72 : decode cX1_meetsDemands 72 = .ok (.ireturn, 1) := by decide +kernel
theorem dX1_keepMotion_0 : decode cX1_keepMotion 0 = .ok (.aload_n 0, 1) := by decide +kernel
theorem dX1_keepMotion_1 : decode cX1_keepMotion 1 = .ok (.getfield 33, 3) := by decide +kernel
theorem dX1_keepMotion_4 : decode cX1_keepMotion 4 = .ok (.ifCond .ne 13, 3) := by decide +kernel
theorem dX1_keepMotion_7 : decode cX1_keepMotion 7 = .ok (.aload_n 0, 1) := by decide +kernel
theorem dX1_keepMotion_8 : decode cX1_keepMotion 8 = .ok (.iload_n 1, 1) := by decide +kernel
theorem dX1_keepMotion_9 : decode cX1_keepMotion 9 = .ok (.putfield 54, 3) := by decide +kernel
theorem dX1_keepMotion_12 : decode cX1_keepMotion 12 = .ok (.aload_n 0, 1) := by decide +kernel
theorem dX1_keepMotion_13 : decode cX1_keepMotion 13 = .ok (.iload_n 2, 1) := by decide +kernel
theorem dX1_keepMotion_14 : decode cX1_keepMotion 14 = .ok (.putfield 57, 3) := by decide +kernel
theorem dX1_keepMotion_17 : decode cX1_keepMotion 17 = .ok (.aload_n 0, 1) := by decide +kernel
theorem dX1_keepMotion_18 : decode cX1_keepMotion 18 = .ok (.iload_n 1, 1) := by decide +kernel
theorem dX1_keepMotion_19 : decode cX1_keepMotion 19 = .ok (.putfield 60, 3) := by decide +kernel
theorem dX1_keepMotion_22 : decode cX1_keepMotion 22 = .ok (.aload_n 0, 1) := by decide +kernel
theorem dX1_keepMotion_23 : decode cX1_keepMotion 23 = .ok (.iload_n 2, 1) := by decide +kernel
theorem dX1_keepMotion_24 : decode cX1_keepMotion 24 = .ok (.putfield 63, 3) := by decide +kernel
theorem dX1_keepMotion_27 : decode cX1_keepMotion 27 = .ok (.aload_n 0, 1) := by decide +kernel
theorem dX1_keepMotion_28 : decode cX1_keepMotion 28 = .ok (.dup, 1) := by decide +kernel
theorem dX1_keepMotion_29 : decode cX1_keepMotion 29 = .ok (.getfield 33, 3) := by decide +kernel
theorem dX1_keepMotion_32 : decode cX1_keepMotion 32 = .ok (.iconst 1, 1) := by decide +kernel
theorem dX1_keepMotion_33 : decode cX1_keepMotion 33 = .ok (.iadd, 1) := by decide +kernel
theorem dX1_keepMotion_34 : decode cX1_keepMotion 34 = .ok (.putfield 33, 3) := by decide +kernel
theorem dX1_keepMotion_37 : decode cX1_keepMotion 37 = .ok (.return_, 1) := by decide +kernel
theorem dX2_init_0 : decode cX2_init 0 = .ok (.aload_n 0, 1) := by decide +kernel
theorem dX2_init_1 : decode cX2_init 1 = .ok (.invokespecial 3, 3) := by decide +kernel
theorem dX2_init_4 : decode cX2_init 4 = .ok (.aload_n 0, 1) := by decide +kernel
theorem dX2_init_5 : decode cX2_init 5 = .ok (.bipush 6, 2) := by decide +kernel
theorem dX2_init_7 : decode cX2_init 7 = .ok (.newarray .int, 2) := by decide +kernel
theorem dX2_init_9 : decode cX2_init 9 = .ok (.putfield 9, 3) := by decide +kernel
theorem dX2_init_12 : decode cX2_init 12 = .ok (.return_, 1) := by decide +kernel
theorem dX3_init_0 : decode cX3_init 0 = .ok (.aload_n 0, 1) := by decide +kernel
theorem dX3_init_1 : decode cX3_init 1 = .ok (.invokespecial 3, 3) := by decide +kernel
theorem dX3_init_4 : decode cX3_init 4 = .ok (.aload_n 0, 1) := by decide +kernel
theorem dX3_init_5 : decode cX3_init 5 = .ok (.bipush 8, 2) := by decide +kernel
theorem dX3_init_7 : decode cX3_init 7 = .ok (.newarray .int, 2) := by decide +kernel
theorem dX3_init_9 : decode cX3_init 9 = .ok (.putfield 9, 3) := by decide +kernel
theorem dX3_init_12 : decode cX3_init 12 = .ok (.aload_n 0, 1) := by decide +kernel
theorem dX3_init_13 : decode cX3_init 13 = .ok (.iconst 4, 1) := by decide +kernel
theorem dX3_init_14 : decode cX3_init 14 = .ok (.anewarray 15, 3) := by decide +kernel
theorem dX3_init_17 : decode cX3_init 17 = .ok (.putfield 17, 3) := by decide +kernel
theorem dX3_init_20 : decode cX3_init 20 = .ok (.aload_n 0, 1) := by decide +kernel
theorem dX3_init_21 : decode cX3_init 21 = .ok (.iconst 5, 1) := by decide +kernel
theorem dX3_init_22 : decode cX3_init 22 = .ok (.anewarray 21, 3) := by decide +kernel
theorem dX3_init_25 : decode cX3_init 25 = .ok (.putfield 23, 3) := by decide +kernel
theorem dX3_init_28 : decode cX3_init 28 = .ok (.aload_n 0, 1) := by decide +kernel
theorem dX3_init_29 : decode cX3_init 29 = .ok (.bipush 10, 2) := by decide +kernel
theorem dX3_init_31 : decode cX3_init 31 = .ok (.newarray .int, 2) := by decide +kernel
theorem dX3_init_33 : decode cX3_init 33 = .ok (.putfield 27, 3) := by decide +kernel
theorem dX3_init_36 : decode cX3_init 36 = .ok (.aload_n 0, 1) := by decide +kernel
theorem dX3_init_37 : decode cX3_init 37 = .ok (.bipush 10, 2) := by decide +kernel
theorem dX3_init_39 : decode cX3_init 39 = .ok (.newarray .int, 2) := by decide +kernel
theorem dX3_init_41 : decode cX3_init 41 = .ok (.putfield 30, 3) := by decide +kernel
theorem dX3_init_44 : decode cX3_init 44 = .ok (.iconst 0, 1) := by decide +kernel
theorem dX3_init_45 : decode cX3_init 45 = .ok (.istore_n 1, 1) := by decide +kernel
theorem dX3_init_46 : decode cX3_init 46 = .ok (.iload_n 1, 1) := by decide +kernel
theorem dX3_init_47 : decode cX3_init 47 = .ok (.aload_n 0, 1) := by decide +kernel
theorem dX3_init_48 : decode cX3_init 48 = .ok (.getfield 9, 3) := by decide +kernel
theorem dX3_init_51 : decode cX3_init 51 = .ok (.arraylength, 1) := by decide +kernel
theorem dX3_init_52 : decode cX3_init 52 = .ok (.if_icmp .ge 22, 3) := by decide +kernel
theorem dX3_init_55 : decode cX3_init 55 = .ok (.aload_n 0, 1) := by decide +kernel
theorem dX3_init_56 : decode cX3_init 56 = .ok (.getfield 9, 3) := by decide +kernel
theorem dX3_init_59 : decode cX3_init 59 = .ok (.iload_n 1, 1) := by decide +kernel
theorem dX3_init_60 : decode cX3_init 60 = .ok (.getstatic 33, 3) := by decide +kernel
theorem dX3_init_63 : decode cX3_init 63 = .ok (.iload_n 1, 1) := by decide +kernel
theorem dX3_init_64 : decode cX3_init 64 = .ok (.invokestatic 36, 3) := by decide +kernel
theorem dX3_init_67 : decode cX3_init 67 = .ok (.iastore, 1) := by decide +kernel
theorem dX3_init_68 : decode cX3_init 68 = .ok (.iinc 1 1, 3) := by decide +kernel
theorem dX3_init_71 : decode cX3_init 71 = .ok (.goto (-25), 3) := by decide +kernel
theorem dX3_init_74 : decode cX3_init 74 = .ok (.iconst 0, 1) := by decide +kernel
theorem dX3_init_75 : decode cX3_init 75 = .ok (.istore_n 1, 1) := by decide +kernel
theorem dX3_init_76 : decode cX3_init 76 = .ok (.iload_n 1, 1) := by decide +kernel
theorem dX3_init_77 : decode cX3_init 77 = .ok (.aload_n 0, 1) := by decide +kernel
theorem dX3_init_78 : decode cX3_init 78 = .ok (.getfield 17, 3) := by decide +kernel
theorem dX3_init_81 : decode cX3_init 81 = .ok (.arraylength, 1) := by decide +kernel
theorem dX3_init_82 : decode cX3_init 82 = .ok (.if_icmp .ge 22, 3) := by decide +kernel
theorem dX3_init_85 : decode cX3_init 85 = .ok (.aload_n 0, 1) := by decide +kernel
theorem dX3_init_86 : decode cX3_init 86 = .ok (.getfield 17, 3) := by decide +kernel
theorem dX3_init_89 : decode cX3_init 89 = .ok (.iload_n 1, 1) := by decide +kernel
theorem dX3_init_90 : decode cX3_init 90 = .ok (.new 15, 3) := by decide +kernel
theorem dX3_init_93 : decode cX3_init 93 = .ok (.dup, 1) := by decide +kernel
theorem dX3_init_94 : decode cX3_init 94 = .ok (.invokespecial 40, 3) := by decide +kernel
theorem dX3_init_97 : decode cX3_init 97 = .ok (.aastore, 1) := by decide +kernel
theorem dX3_init_98 : decode cX3_init 98 = .ok (.iinc 1 1, 3) := by decide +kernel
theorem dX3_init_101 : decode cX3_init 101 = .ok (.goto (-25), 3) := by decide +kernel
theorem dX3_init_104 : decode cX3_init 104 = .ok (.iconst 0, 1) := by decide +kernel
theorem dX3_init_105 : decode cX3_init 105 = .ok (.istore_n 1, 1) := by decide +kernel
theorem dX3_init_106 : decode cX3_init 106 = .ok (.iload_n 1, 1) := by decide +kernel
theorem dX3_init_107 : decode cX3_init 107 = .ok (.aload_n 0, 1) := by decide +kernel
theorem dX3_init_108 : decode cX3_init 108 = .ok (.getfield 23, 3) := by decide +kernel
theorem dX3_init_111 : decode cX3_init 111 = .ok (.arraylength, 1) := by decide +kernel
theorem dX3_init_112 : decode cX3_init 112 = .ok (.if_icmp .ge 22, 3) := by decide +kernel
theorem dX3_init_115 : decode cX3_init 115 = .ok (.aload_n 0, 1) := by decide +kernel
theorem dX3_init_116 : decode cX3_init 116 = .ok (.getfield 23, 3) := by decide +kernel
theorem dX3_init_119 : decode cX3_init 119 = .ok (.iload_n 1, 1) := by decide +kernel
theorem dX3_init_120 : decode cX3_init 120 = .ok (.new 21, 3) := by decide +kernel
theorem dX3_init_123 : decode cX3_init 123 = .ok (.dup, 1) := by decide +kernel
theorem dX3_init_124 : decode cX3_init 124 = .ok (.invokespecial 41, 3) := by decide +kernel
theorem dX3_init_127 : decode cX3_init 127 = .ok (.aastore, 1) := by decide +kernel
theorem dX3_init_128 : decode cX3_init 128 = .ok (.iinc 1 1, 3) := by decide +kernel
theorem dX3_init_131 : decode cX3_init 131 = .ok (.goto (-25), 3) := by decide +kernel
theorem dX3_init_134 : decode cX3_init 134 = .ok (.return_, 1) := by decide +kernel
theorem dX3_become_0 : decode cX3_become 0 = .ok (.aload_n 1, 1) := by decide +kernel
theorem dX3_become_1 : decode cX3_become 1 = .ok (.ifnonnull 4, 3) := by decide +kernel
theorem dX3_become_4 : decode cX3_become 4 = .ok (.return_, 1) := by decide +kernel
theorem dX3_become_5 : decode cX3_become 5 = .ok (.iconst 0, 1) := by decide +kernel
theorem dX3_become_6 : decode cX3_become 6 = .ok (.istore_n 2, 1) := by decide +kernel
theorem dX3_become_7 : decode cX3_become 7 = .ok (.iload_n 2, 1) := by decide +kernel
theorem dX3_become_8 : decode cX3_become 8 = .ok (.aload_n 0, 1) := by decide +kernel
theorem dX3_become_9 : decode cX3_become 9 = .ok (.getfield 9, 3) := by decide +kernel
theorem dX3_become_12 : decode cX3_become 12 = .ok (.arraylength, 1) := by decide +kernel
theorem dX3_become_13 : decode cX3_become 13 = .ok (.if_icmp .ge 23, 3) := by decide +kernel
theorem dX3_become_16 : decode cX3_become 16 = .ok (.aload_n 0, 1) := by decide +kernel
theorem dX3_become_17 : decode cX3_become 17 = .ok (.getfield 9, 3) := by decide +kernel
theorem dX3_become_20 : decode cX3_become 20 = .ok (.iload_n 2, 1) := by decide +kernel
theorem dX3_become_21 : decode cX3_become 21 = .ok (.aload_n 1, 1) := by decide +kernel
theorem dX3_become_22 : decode cX3_become 22 = .ok (.getfield 9, 3) := by decide +kernel
theorem dX3_become_25 : decode cX3_become 25 = .ok (.iload_n 2, 1) := by decide +kernel
theorem dX3_become_26 : decode cX3_become 26 = .ok (.invokestatic 36, 3) := by decide +kernel
theorem dX3_become_29 : decode cX3_become 29 = .ok (.iastore, 1) := by decide +kernel
theorem dX3_become_30 : decode cX3_become 30 = .ok (.iinc 2 1, 3) := by decide +kernel
theorem dX3_become_33 : decode cX3_become 33 = .ok (.goto (-26), 3) := by decide +kernel
theorem dX3_become_36 : decode cX3_become 36 = .ok (.aload_n 0, 1) := by decide +kernel
theorem dX3_become_37 : decode cX3_become 37 = .ok (.aload_n 1, 1) := by decide +kernel
theorem dX3_become_38 : decode cX3_become 38 = .ok (.invokevirtual 42, 3) := by decide +kernel
theorem dX3_become_41 : decode cX3_become 41 = .ok (.aload_n 0, 1) := by decide +kernel
theorem dX3_become_42 : decode cX3_become 42 = .ok (.aload_n 1, 1) := by decide +kernel
theorem dX3_become_43 : decode cX3_become 43 = .ok (.invokevirtual 46, 3) := by decide +kernel
theorem dX3_become_46 : decode cX3_become 46 = .ok (.aload_n 0, 1) := by decide +kernel
theorem dX3_become_47 : decode cX3_become 47 = .ok (.aload_n 1, 1) := by decide +kernel
theorem dX3_become_48 : decode cX3_become 48 = .ok (.getfield 49, 3) := by decide +kernel
theorem dX3_become_51 : decode cX3_become 51 = .ok (.putfield 49, 3) := by decide +kernel
theorem dX3_become_54 : decode cX3_become 54 = .ok (.aload_n 0, 1) := by decide +kernel
theorem dX3_become_55 : decode cX3_become 55 = .ok (.aload_n 1, 1) := by decide +kernel
theorem dX3_become_56 : decode cX3_become 56 = .ok (.getfield 53, 3) := by decide +kernel
theorem dX3_become_59 : decode cX3_become 59 = .ok (.putfield 53, 3) := by decide +kernel
theorem dX3_become_62 : decode cX3_become 62 = .ok (.iconst 0, 1) := by decide +kernel
theorem dX3_become_63 : decode cX3_become 63 = .ok (.istore_n 2, 1) := by decide +kernel
theorem dX3_become_64 : decode cX3_become 64 = .ok (.iload_n 2, 1) := by decide +kernel
theorem dX3_become_65 : decode cX3_become 65 = .ok (.aload_n 0, 1) := by decide +kernel
theorem dX3_become_66 : decode cX3_become 66 = .ok (.getfield 27, 3) := by decide +kernel
theorem dX3_become_69 : decode cX3_become 69 = .ok (.arraylength, 1) := by decide +kernel
theorem dX3_become_70 : decode cX3_become 70 = .ok (.if_icmp .ge 46, 3) := by decide +kernel
theorem dX3_become_73 : decode cX3_become 73 = .ok (.iload_n 2, 1) := by decide +kernel
theorem dX3_become_74 : decode cX3_become 74 = .ok (.aload_n 0, 1) := by decide +kernel
theorem dX3_become_75 : decode cX3_become 75 = .ok (.getfield 30, 3) := by decide +kernel
theorem dX3_become_78 : decode cX3_become 78 = .ok (.arraylength, 1) := by decide +kernel
theorem dX3_become_79 : decode cX3_become 79 = .ok (.if_icmp .ge 37, 3) := by decide +kernel
theorem dX3_become_82 : decode cX3_become 82 = .ok (.aload_n 0, 1) := by decide +kernel
theorem dX3_become_83 : decode cX3_become 83 = .ok (.getfield 27, 3) := by decide +kernel
theorem dX3_become_86 : decode cX3_become 86 = .ok (.iload_n 2, 1) := by decide +kernel
theorem dX3_become_87 : decode cX3_become 87 = .ok (.aload_n 1, 1) := by decide +kernel
theorem dX3_become_88 : decode cX3_become 88 = .ok (.getfield 27, 3) := by decide +kernel
theorem dX3_become_91 : decode cX3_become 91 = .ok (.iload_n 2, 1) := by decide +kernel
theorem dX3_become_92 : decode cX3_become 92 = .ok (.invokestatic 36, 3) := by decide +kernel
theorem dX3_become_95 : decode cX3_become 95 = .ok (.iastore, 1) := by decide +kernel
theorem dX3_become_96 : decode cX3_become 96 = .ok (.aload_n 0, 1) := by decide +kernel
theorem dX3_become_97 : decode cX3_become 97 = .ok (.getfield 30, 3) := by decide +kernel
theorem dX3_become_100 : decode cX3_become 100 = .ok (.iload_n 2, 1) := by decide +kernel
theorem dX3_become_101 : decode cX3_become 101 = .ok (.aload_n 1, 1) := by decide +kernel
theorem dX3_become_102 : decode cX3_become 102 = .ok (.getfield 30, 3) := by decide +kernel
theorem dX3_become_105 : decode cX3_become 105 = .ok (.iload_n 2, 1) := by decide +kernel
theorem dX3_become_106 : decode cX3_become 106 = .ok (.invokestatic 36, 3) := by decide +kernel
theorem dX3_become_109 : decode cX3_become 109 = .ok (.iastore, 1) := by decide +kernel
theorem dX3_become_110 : decode cX3_become 110 = .ok (.iinc 2 1, 3) := by decide +kernel
theorem dX3_become_113 : decode cX3_become 113 = .ok (.goto (-49), 3) := by decide +kernel
theorem dX3_become_116 : decode cX3_become 116 = .ok (.return_, 1) := by decide +kernel
theorem dX3_becomeInThings_0 : decode cX3_becomeInThings 0 = .ok (.aload_n 0, 1) := by decide +kernel
theorem dX3_becomeInThings_1 : decode cX3_becomeInThings 1 = .ok (.aload_n 1, 1) := by decide +kernel
theorem dX3_becomeInThings_2 : decode cX3_becomeInThings 2 = .ok (.getfield 56, 3) := by decide +kernel
theorem dX3_becomeInThings_5 : decode cX3_becomeInThings 5 = .ok (.putfield 56, 3) := by decide +kernel
theorem dX3_becomeInThings_8 : decode cX3_becomeInThings 8 = .ok (.iconst 0, 1) := by decide +kernel
theorem dX3_becomeInThings_9 : decode cX3_becomeInThings 9 = .ok (.istore_n 2, 1) := by decide +kernel
theorem dX3_becomeInThings_10 : decode cX3_becomeInThings 10 = .ok (.iload_n 2, 1) := by decide +kernel
theorem dX3_becomeInThings_11 : decode cX3_becomeInThings 11 = .ok (.aload_n 0, 1) := by decide +kernel
theorem dX3_becomeInThings_12 : decode cX3_becomeInThings 12 = .ok (.getfield 56, 3) := by decide +kernel
theorem dX3_becomeInThings_15 : decode cX3_becomeInThings 15 = .ok (.if_icmp .ge 37, 3) := by decide +kernel
theorem dX3_becomeInThings_18 : decode cX3_becomeInThings 18 = .ok (.aload_n 0, 1) := by decide +kernel
theorem dX3_becomeInThings_19 : decode cX3_becomeInThings 19 = .ok (.iload_n 2, 1) := by decide +kernel
theorem dX3_becomeInThings_20 : decode cX3_becomeInThings 20 = .ok (.invokevirtual 59, 3) := by decide +kernel
theorem dX3_becomeInThings_23 : decode cX3_becomeInThings 23 = .ok (.astore_n 3, 1) := by decide +kernel
theorem dX3_becomeInThings_24 : decode cX3_becomeInThings 24 = .ok (.aload_n 1, 1) := by decide +kernel
theorem dX3_becomeInThings_25 : decode cX3_becomeInThings 25 = .ok (.iload_n 2, 1) := by decide +kernel
theorem dX3_becomeInThings_26 : decode cX3_becomeInThings 26 = .ok (.invokevirtual 59, 3) := by decide +kernel
theorem dX3_becomeInThings_29 : decode cX3_becomeInThings 29 = .ok (.astore 4, 2) := by decide +kernel
theorem dX3_becomeInThings_31 : decode cX3_becomeInThings 31 = .ok (.aload_n 3, 1) := by decide +kernel
theorem dX3_becomeInThings_32 : decode cX3_becomeInThings 32 = .ok (.ifnull 14, 3) := by decide +kernel
theorem dX3_becomeInThings_35 : decode cX3_becomeInThings 35 = .ok (.aload 4, 2) := by decide +kernel
theorem dX3_becomeInThings_37 : decode cX3_becomeInThings 37 = .ok (.ifnull 9, 3) := by decide +kernel
theorem dX3_becomeInThings_40 : decode cX3_becomeInThings 40 = .ok (.aload_n 3, 1) := by decide +kernel
theorem dX3_becomeInThings_41 : decode cX3_becomeInThings 41 = .ok (.aload 4, 2) := by decide +kernel
theorem dX3_becomeInThings_43 : decode cX3_becomeInThings 43 = .ok (.invokevirtual 63, 3) := by decide +kernel
theorem dX3_becomeInThings_46 : decode cX3_becomeInThings 46 = .ok (.iinc 2 1, 3) := by decide +kernel
theorem dX3_becomeInThings_49 : decode cX3_becomeInThings 49 = .ok (.goto (-39), 3) := by decide +kernel
theorem dX3_becomeInThings_52 : decode cX3_becomeInThings 52 = .ok (.return_, 1) := by decide +kernel
theorem dX3_becomeInFrames_0 : decode cX3_becomeInFrames 0 = .ok (.aload_n 0, 1) := by decide +kernel
theorem dX3_becomeInFrames_1 : decode cX3_becomeInFrames 1 = .ok (.aload_n 1, 1) := by decide +kernel
theorem dX3_becomeInFrames_2 : decode cX3_becomeInFrames 2 = .ok (.getfield 67, 3) := by decide +kernel
theorem dX3_becomeInFrames_5 : decode cX3_becomeInFrames 5 = .ok (.putfield 67, 3) := by decide +kernel
theorem dX3_becomeInFrames_8 : decode cX3_becomeInFrames 8 = .ok (.aload_n 0, 1) := by decide +kernel
theorem dX3_becomeInFrames_9 : decode cX3_becomeInFrames 9 = .ok (.aload_n 1, 1) := by decide +kernel
theorem dX3_becomeInFrames_10 : decode cX3_becomeInFrames 10 = .ok (.getfield 70, 3) := by decide +kernel
theorem dX3_becomeInFrames_13 : decode cX3_becomeInFrames 13 = .ok (.putfield 70, 3) := by decide +kernel
theorem dX3_becomeInFrames_16 : decode cX3_becomeInFrames 16 = .ok (.iconst 0, 1) := by decide +kernel
theorem dX3_becomeInFrames_17 : decode cX3_becomeInFrames 17 = .ok (.istore_n 2, 1) := by decide +kernel
theorem dX3_becomeInFrames_18 : decode cX3_becomeInFrames 18 = .ok (.iload_n 2, 1) := by decide +kernel
theorem dX3_becomeInFrames_19 : decode cX3_becomeInFrames 19 = .ok (.aload_n 0, 1) := by decide +kernel
theorem dX3_becomeInFrames_20 : decode cX3_becomeInFrames 20 = .ok (.getfield 67, 3) := by decide +kernel
theorem dX3_becomeInFrames_23 : decode cX3_becomeInFrames 23 = .ok (.if_icmp .ge 37, 3) := by decide +kernel
theorem dX3_becomeInFrames_26 : decode cX3_becomeInFrames 26 = .ok (.aload_n 0, 1) := by decide +kernel
theorem dX3_becomeInFrames_27 : decode cX3_becomeInFrames 27 = .ok (.iload_n 2, 1) := by decide +kernel
theorem dX3_becomeInFrames_28 : decode cX3_becomeInFrames 28 = .ok (.invokevirtual 73, 3) := by decide +kernel
theorem dX3_becomeInFrames_31 : decode cX3_becomeInFrames 31 = .ok (.astore_n 3, 1) := by decide +kernel
theorem dX3_becomeInFrames_32 : decode cX3_becomeInFrames 32 = .ok (.aload_n 1, 1) := by decide +kernel
theorem dX3_becomeInFrames_33 : decode cX3_becomeInFrames 33 = .ok (.iload_n 2, 1) := by decide +kernel
theorem dX3_becomeInFrames_34 : decode cX3_becomeInFrames 34 = .ok (.invokevirtual 73, 3) := by decide +kernel
theorem dX3_becomeInFrames_37 : decode cX3_becomeInFrames 37 = .ok (.astore 4, 2) := by decide +kernel
theorem dX3_becomeInFrames_39 : decode cX3_becomeInFrames 39 = .ok (.aload_n 3, 1) := by decide +kernel
theorem dX3_becomeInFrames_40 : decode cX3_becomeInFrames 40 = .ok (.ifnull 14, 3) := by decide +kernel
theorem dX3_becomeInFrames_43 : decode cX3_becomeInFrames 43 = .ok (.aload 4, 2) := by decide +kernel
theorem dX3_becomeInFrames_45 : decode cX3_becomeInFrames 45 = .ok (.ifnull 9, 3) := by decide +kernel
theorem dX3_becomeInFrames_48 : decode cX3_becomeInFrames 48 = .ok (.aload_n 3, 1) := by decide +kernel
theorem dX3_becomeInFrames_49 : decode cX3_becomeInFrames 49 = .ok (.aload 4, 2) := by decide +kernel
theorem dX3_becomeInFrames_51 : decode cX3_becomeInFrames 51 = .ok (.invokevirtual 77, 3) := by decide +kernel
theorem dX3_becomeInFrames_54 : decode cX3_becomeInFrames 54 = .ok (.iinc 2 1, 3) := by decide +kernel
theorem dX3_becomeInFrames_57 : decode cX3_becomeInFrames 57 = .ok (.goto (-39), 3) := by decide +kernel
theorem dX3_becomeInFrames_60 : decode cX3_becomeInFrames 60 = .ok (.return_, 1) := by decide +kernel
theorem dX3_setting_0 : decode cX3_setting 0 = .ok (.aload_n 0, 1) := by decide +kernel
theorem dX3_setting_1 : decode cX3_setting 1 = .ok (.getfield 9, 3) := by decide +kernel
theorem dX3_setting_4 : decode cX3_setting 4 = .ok (.iload_n 1, 1) := by decide +kernel
theorem dX3_setting_5 : decode cX3_setting 5 = .ok (.invokestatic 36, 3) := by decide +kernel
theorem dX3_setting_8 : decode cX3_setting 8 = .ok (.ireturn, 1) := by decide +kernel
theorem dX3_changeSetting_0 : decode cX3_changeSetting 0 = .ok (.iload_n 1, 1) := by decide +kernel
theorem dX3_changeSetting_1 : decode cX3_changeSetting 1 = .ok (.ifCond .lt 19, 3) := by decide +kernel
theorem dX3_changeSetting_4 : decode cX3_changeSetting 4 = .ok (.iload_n 1, 1) := by decide +kernel
theorem dX3_changeSetting_5 : decode cX3_changeSetting 5 = .ok (.aload_n 0, 1) := by decide +kernel
theorem dX3_changeSetting_6 : decode cX3_changeSetting 6 = .ok (.getfield 9, 3) := by decide +kernel
theorem dX3_changeSetting_9 : decode cX3_changeSetting 9 = .ok (.arraylength, 1) := by decide +kernel
theorem dX3_changeSetting_10 : decode cX3_changeSetting 10 = .ok (.if_icmp .ge 10, 3) := by decide +kernel
theorem dX3_changeSetting_13 : decode cX3_changeSetting 13 = .ok (.aload_n 0, 1) := by decide +kernel
theorem dX3_changeSetting_14 : decode cX3_changeSetting 14 = .ok (.getfield 9, 3) := by decide +kernel
theorem dX3_changeSetting_17 : decode cX3_changeSetting 17 = .ok (.iload_n 1, 1) := by decide +kernel
theorem dX3_changeSetting_18 : decode cX3_changeSetting 18 = .ok (.iload_n 2, 1) := by decide +kernel
theorem dX3_changeSetting_19 : decode cX3_changeSetting 19 = .ok (.iastore, 1) := by decide +kernel
theorem dX3_changeSetting_20 : decode cX3_changeSetting 20 = .ok (.return_, 1) := by decide +kernel
theorem dX3_thingAt_0 : decode cX3_thingAt 0 = .ok (.iload_n 1, 1) := by decide +kernel
theorem dX3_thingAt_1 : decode cX3_thingAt 1 = .ok (.ifCond .lt 29, 3) := by decide +kernel
theorem dX3_thingAt_4 : decode cX3_thingAt 4 = .ok (.iload_n 1, 1) := by decide +kernel
theorem dX3_thingAt_5 : decode cX3_thingAt 5 = .ok (.aload_n 0, 1) := by decide +kernel
theorem dX3_thingAt_6 : decode cX3_thingAt 6 = .ok (.getfield 56, 3) := by decide +kernel
theorem dX3_thingAt_9 : decode cX3_thingAt 9 = .ok (.if_icmp .ge 21, 3) := by decide +kernel
theorem dX3_thingAt_12 : decode cX3_thingAt 12 = .ok (.iload_n 1, 1) := by decide +kernel
theorem dX3_thingAt_13 : decode cX3_thingAt 13 = .ok (.aload_n 0, 1) := by decide +kernel
theorem dX3_thingAt_14 : decode cX3_thingAt 14 = .ok (.getfield 17, 3) := by decide +kernel
theorem dX3_thingAt_17 : decode cX3_thingAt 17 = .ok (.arraylength, 1) := by decide +kernel
theorem dX3_thingAt_18 : decode cX3_thingAt 18 = .ok (.if_icmp .ge 12, 3) := by decide +kernel
theorem dX3_thingAt_21 : decode cX3_thingAt 21 = .ok (.aload_n 0, 1) := by decide +kernel
theorem dX3_thingAt_22 : decode cX3_thingAt 22 = .ok (.getfield 17, 3) := by decide +kernel
theorem dX3_thingAt_25 : decode cX3_thingAt 25 = .ok (.iload_n 1, 1) := by decide +kernel
theorem dX3_thingAt_26 : decode cX3_thingAt 26 = .ok (.aaload, 1) := by decide +kernel
theorem dX3_thingAt_27 : decode cX3_thingAt 27 = .ok (.goto 4, 3) := by decide +kernel
theorem dX3_thingAt_30 : decode cX3_thingAt 30 = .ok (.aconst_null, 1) := by decide +kernel
theorem dX3_thingAt_31 : decode cX3_thingAt 31 = .ok (.areturn, 1) := by decide +kernel
theorem dX3_addThing_0 : decode cX3_addThing 0 = .ok (.aload_n 0, 1) := by decide +kernel
theorem dX3_addThing_1 : decode cX3_addThing 1 = .ok (.getfield 56, 3) := by decide +kernel
theorem dX3_addThing_4 : decode cX3_addThing 4 = .ok (.ifCond .lt 15, 3) := by decide +kernel
theorem dX3_addThing_7 : decode cX3_addThing 7 = .ok (.aload_n 0, 1) := by decide +kernel
theorem dX3_addThing_8 : decode cX3_addThing 8 = .ok (.getfield 56, 3) := by decide +kernel
theorem dX3_addThing_11 : decode cX3_addThing 11 = .ok (.aload_n 0, 1) := by decide +kernel
theorem dX3_addThing_12 : decode cX3_addThing 12 = .ok (.getfield 17, 3) := by decide +kernel
theorem dX3_addThing_15 : decode cX3_addThing 15 = .ok (.arraylength, 1) := by decide +kernel
theorem dX3_addThing_16 : decode cX3_addThing 16 = .ok (.if_icmp .lt 4, 3) := by decide +kernel
theorem dX3_addThing_19 : decode cX3_addThing 19 = .ok (.return_, 1) := by decide +kernel
theorem dX3_addThing_20 : decode cX3_addThing 20 = .ok (.aload_n 0, 1) := by decide +kernel
theorem dX3_addThing_21 : decode cX3_addThing 21 = .ok (.getfield 17, 3) := by decide +kernel
theorem dX3_addThing_24 : decode cX3_addThing 24 = .ok (.aload_n 0, 1) := by decide +kernel
theorem dX3_addThing_25 : decode cX3_addThing 25 = .ok (.getfield 56, 3) := by decide +kernel
theorem dX3_addThing_28 : decode cX3_addThing 28 = .ok (.aaload, 1) := by decide +kernel
theorem dX3_addThing_29 : decode cX3_addThing 29 = .ok (.astore 7, 2) := by decide +kernel
theorem dX3_addThing_31 : decode cX3_addThing 31 = .ok (.aload 7, 2) := by decide +kernel
theorem dX3_addThing_33 : decode cX3_addThing 33 = .ok (.ifnonnull 4, 3) := by decide +kernel
theorem dX3_addThing_36 : decode cX3_addThing 36 = .ok (.return_, 1) := by decide +kernel
theorem dX3_addThing_37 : decode cX3_addThing 37 = .ok (.aload 7, 2) := by decide +kernel
theorem dX3_addThing_39 : decode cX3_addThing 39 = .ok (.iload_n 1, 1) := by decide +kernel
theorem dX3_addThing_40 : decode cX3_addThing 40 = .ok (.putfield 80, 3) := by decide +kernel
theorem dX3_addThing_43 : decode cX3_addThing 43 = .ok (.aload 7, 2) := by decide +kernel
theorem dX3_addThing_45 : decode cX3_addThing 45 = .ok (.iload_n 2, 1) := by decide +kernel
theorem dX3_addThing_46 : decode cX3_addThing 46 = .ok (.putfield 83, 3) := by decide +kernel
theorem dX3_addThing_49 : decode cX3_addThing 49 = .ok (.aload 7, 2) := by decide +kernel
theorem dX3_addThing_51 : decode cX3_addThing 51 = .ok (.iload_n 3, 1) := by decide +kernel
theorem dX3_addThing_52 : decode cX3_addThing 52 = .ok (.putfield 86, 3) := by decide +kernel
theorem dX3_addThing_55 : decode cX3_addThing 55 = .ok (.aload 7, 2) := by decide +kernel
theorem dX3_addThing_57 : decode cX3_addThing 57 = .ok (.iload 4, 2) := by decide +kernel
theorem dX3_addThing_59 : decode cX3_addThing 59 = .ok (.putfield 89, 3) := by decide +kernel
theorem dX3_addThing_62 : decode cX3_addThing 62 = .ok (.aload 7, 2) := by decide +kernel
theorem dX3_addThing_64 : decode cX3_addThing 64 = .ok (.iload 5, 2) := by decide +kernel
theorem dX3_addThing_66 : decode cX3_addThing 66 = .ok (.putfield 92, 3) := by decide +kernel
theorem dX3_addThing_69 : decode cX3_addThing 69 = .ok (.aload 7, 2) := by decide +kernel
theorem dX3_addThing_71 : decode cX3_addThing 71 = .ok (.iload 6, 2) := by decide +kernel
theorem dX3_addThing_73 : decode cX3_addThing 73 = .ok (.putfield 95, 3) := by decide +kernel
theorem dX3_addThing_76 : decode cX3_addThing 76 = .ok (.aload_n 0, 1) := by decide +kernel
theorem dX3_addThing_77 : decode cX3_addThing 77 = .ok (.dup, 1) := by decide +kernel
theorem dX3_addThing_78 : decode cX3_addThing 78 = .ok (.getfield 56, 3) := by decide +kernel
theorem dX3_addThing_81 : decode cX3_addThing 81 = .ok (.iconst 1, 1) := by decide +kernel
theorem dX3_addThing_82 : decode cX3_addThing 82 = .ok (.iadd, 1) := by decide +kernel
theorem dX3_addThing_83 : decode cX3_addThing 83 = .ok (.putfield 56, 3) := by decide +kernel
theorem dX3_addThing_86 : decode cX3_addThing 86 = .ok (.return_, 1) := by decide +kernel
theorem dX3_frameAt_0 : decode cX3_frameAt 0 = .ok (.iload_n 1, 1) := by decide +kernel
theorem dX3_frameAt_1 : decode cX3_frameAt 1 = .ok (.ifCond .lt 29, 3) := by decide +kernel
theorem dX3_frameAt_4 : decode cX3_frameAt 4 = .ok (.iload_n 1, 1) := by decide +kernel
theorem dX3_frameAt_5 : decode cX3_frameAt 5 = .ok (.aload_n 0, 1) := by decide +kernel
theorem dX3_frameAt_6 : decode cX3_frameAt 6 = .ok (.getfield 67, 3) := by decide +kernel
theorem dX3_frameAt_9 : decode cX3_frameAt 9 = .ok (.if_icmp .ge 21, 3) := by decide +kernel
theorem dX3_frameAt_12 : decode cX3_frameAt 12 = .ok (.iload_n 1, 1) := by decide +kernel
theorem dX3_frameAt_13 : decode cX3_frameAt 13 = .ok (.aload_n 0, 1) := by decide +kernel
theorem dX3_frameAt_14 : decode cX3_frameAt 14 = .ok (.getfield 23, 3) := by decide +kernel
theorem dX3_frameAt_17 : decode cX3_frameAt 17 = .ok (.arraylength, 1) := by decide +kernel
theorem dX3_frameAt_18 : decode cX3_frameAt 18 = .ok (.if_icmp .ge 12, 3) := by decide +kernel
theorem dX3_frameAt_21 : decode cX3_frameAt 21 = .ok (.aload_n 0, 1) := by decide +kernel
theorem dX3_frameAt_22 : decode cX3_frameAt 22 = .ok (.getfield 23, 3) := by decide +kernel
theorem dX3_frameAt_25 : decode cX3_frameAt 25 = .ok (.iload_n 1, 1) := by decide +kernel
theorem dX3_frameAt_26 : decode cX3_frameAt 26 = .ok (.aaload, 1) := by decide +kernel
theorem dX3_frameAt_27 : decode cX3_frameAt 27 = .ok (.goto 4, 3) := by decide +kernel
theorem dX3_frameAt_30 : decode cX3_frameAt 30 = .ok (.aconst_null, 1) := by decide +kernel
theorem dX3_frameAt_31 : decode cX3_frameAt 31 = .ok (.areturn, 1) := by decide +kernel
theorem dX3_takeFrame_0 : decode cX3_takeFrame 0 = .ok (.aload_n 0, 1) := by decide +kernel
theorem dX3_takeFrame_1 : decode cX3_takeFrame 1 = .ok (.getfield 67, 3) := by decide +kernel
theorem dX3_takeFrame_4 : decode cX3_takeFrame 4 = .ok (.aload_n 0, 1) := by decide +kernel
theorem dX3_takeFrame_5 : decode cX3_takeFrame 5 = .ok (.getfield 23, 3) := by decide +kernel
theorem dX3_takeFrame_8 : decode cX3_takeFrame 8 = .ok (.arraylength, 1) := by decide +kernel
theorem dX3_takeFrame_9 : decode cX3_takeFrame 9 = .ok (.if_icmp .lt 8, 3) := by decide +kernel
theorem dX3_takeFrame_12 : decode cX3_takeFrame 12 = .ok (.aload_n 0, 1) := by decide +kernel
theorem dX3_takeFrame_13 : decode cX3_takeFrame 13 = .ok (.iconst 0, 1) := by decide +kernel
theorem dX3_takeFrame_14 : decode cX3_takeFrame 14 = .ok (.invokevirtual 98, 3) := by decide +kernel
theorem dX3_takeFrame_17 : decode cX3_takeFrame 17 = .ok (.aload_n 0, 1) := by decide +kernel
theorem dX3_takeFrame_18 : decode cX3_takeFrame 18 = .ok (.dup, 1) := by decide +kernel
theorem dX3_takeFrame_19 : decode cX3_takeFrame 19 = .ok (.getfield 70, 3) := by decide +kernel
theorem dX3_takeFrame_22 : decode cX3_takeFrame 22 = .ok (.iconst 1, 1) := by decide +kernel
theorem dX3_takeFrame_23 : decode cX3_takeFrame 23 = .ok (.iadd, 1) := by decide +kernel
theorem dX3_takeFrame_24 : decode cX3_takeFrame 24 = .ok (.putfield 70, 3) := by decide +kernel
theorem dX3_takeFrame_27 : decode cX3_takeFrame 27 = .ok (.aload_n 0, 1) := by decide +kernel
theorem dX3_takeFrame_28 : decode cX3_takeFrame 28 = .ok (.dup, 1) := by decide +kernel
theorem dX3_takeFrame_29 : decode cX3_takeFrame 29 = .ok (.getfield 67, 3) := by decide +kernel
theorem dX3_takeFrame_32 : decode cX3_takeFrame 32 = .ok (.iconst 1, 1) := by decide +kernel
theorem dX3_takeFrame_33 : decode cX3_takeFrame 33 = .ok (.iadd, 1) := by decide +kernel
theorem dX3_takeFrame_34 : decode cX3_takeFrame 34 = .ok (.putfield 67, 3) := by decide +kernel
theorem dX3_takeFrame_37 : decode cX3_takeFrame 37 = .ok (.aload_n 0, 1) := by decide +kernel
theorem dX3_takeFrame_38 : decode cX3_takeFrame 38 = .ok (.aload_n 0, 1) := by decide +kernel
theorem dX3_takeFrame_39 : decode cX3_takeFrame 39 = .ok (.getfield 67, 3) := by decide +kernel
theorem dX3_takeFrame_42 : decode cX3_takeFrame 42 = .ok (.iconst 1, 1) := by decide +kernel
theorem dX3_takeFrame_43 : decode cX3_takeFrame 43 = .ok (.isub, 1) := by decide +kernel
theorem dX3_takeFrame_44 : decode cX3_takeFrame 44 = .ok (.invokevirtual 73, 3) := by decide +kernel
theorem dX3_takeFrame_47 : decode cX3_takeFrame 47 = .ok (.astore_n 2, 1) := by decide +kernel
theorem dX3_takeFrame_48 : decode cX3_takeFrame 48 = .ok (.aload_n 2, 1) := by decide +kernel
theorem dX3_takeFrame_49 : decode cX3_takeFrame 49 = .ok (.ifnull 13, 3) := by decide +kernel
theorem dX3_takeFrame_52 : decode cX3_takeFrame 52 = .ok (.aload_n 0, 1) := by decide +kernel
theorem dX3_takeFrame_53 : decode cX3_takeFrame 53 = .ok (.aload_n 2, 1) := by decide +kernel
theorem dX3_takeFrame_54 : decode cX3_takeFrame 54 = .ok (.aload_n 0, 1) := by decide +kernel
theorem dX3_takeFrame_55 : decode cX3_takeFrame 55 = .ok (.getfield 49, 3) := by decide +kernel
theorem dX3_takeFrame_58 : decode cX3_takeFrame 58 = .ok (.aload_n 1, 1) := by decide +kernel
theorem dX3_takeFrame_59 : decode cX3_takeFrame 59 = .ok (.invokevirtual 102, 3) := by decide +kernel
theorem dX3_takeFrame_62 : decode cX3_takeFrame 62 = .ok (.return_, 1) := by decide +kernel
theorem dX3_dropFrame_0 : decode cX3_dropFrame 0 = .ok (.aload_n 0, 1) := by decide +kernel
theorem dX3_dropFrame_1 : decode cX3_dropFrame 1 = .ok (.iload_n 1, 1) := by decide +kernel
theorem dX3_dropFrame_2 : decode cX3_dropFrame 2 = .ok (.invokevirtual 73, 3) := by decide +kernel
theorem dX3_dropFrame_5 : decode cX3_dropFrame 5 = .ok (.astore_n 2, 1) := by decide +kernel
theorem dX3_dropFrame_6 : decode cX3_dropFrame 6 = .ok (.aload_n 2, 1) := by decide +kernel
theorem dX3_dropFrame_7 : decode cX3_dropFrame 7 = .ok (.ifnonnull 4, 3) := by decide +kernel
theorem dX3_dropFrame_10 : decode cX3_dropFrame 10 = .ok (.return_, 1) := by decide +kernel
theorem dX3_dropFrame_11 : decode cX3_dropFrame 11 = .ok (.iload_n 1, 1) := by decide +kernel
theorem dX3_dropFrame_12 : decode cX3_dropFrame 12 = .ok (.iconst 1, 1) := by decide +kernel
theorem dX3_dropFrame_13 : decode cX3_dropFrame 13 = .ok (.iadd, 1) := by decide +kernel
theorem dX3_dropFrame_14 : decode cX3_dropFrame 14 = .ok (.istore_n 3, 1) := by decide +kernel
theorem dX3_dropFrame_15 : decode cX3_dropFrame 15 = .ok (.iload_n 3, 1) := by decide +kernel
theorem dX3_dropFrame_16 : decode cX3_dropFrame 16 = .ok (.aload_n 0, 1) := by decide +kernel
theorem dX3_dropFrame_17 : decode cX3_dropFrame 17 = .ok (.getfield 67, 3) := by decide +kernel
theorem dX3_dropFrame_20 : decode cX3_dropFrame 20 = .ok (.if_icmp .ge 32, 3) := by decide +kernel
theorem dX3_dropFrame_23 : decode cX3_dropFrame 23 = .ok (.iload_n 3, 1) := by decide +kernel
theorem dX3_dropFrame_24 : decode cX3_dropFrame 24 = .ok (.aload_n 0, 1) := by decide +kernel
theorem dX3_dropFrame_25 : decode cX3_dropFrame 25 = .ok (.getfield 23, 3) := by decide +kernel
theorem dX3_dropFrame_28 : decode cX3_dropFrame 28 = .ok (.arraylength, 1) := by decide +kernel
theorem dX3_dropFrame_29 : decode cX3_dropFrame 29 = .ok (.if_icmp .ge 23, 3) := by decide +kernel
theorem dX3_dropFrame_32 : decode cX3_dropFrame 32 = .ok (.aload_n 0, 1) := by decide +kernel
theorem dX3_dropFrame_33 : decode cX3_dropFrame 33 = .ok (.getfield 23, 3) := by decide +kernel
theorem dX3_dropFrame_36 : decode cX3_dropFrame 36 = .ok (.iload_n 3, 1) := by decide +kernel
theorem dX3_dropFrame_37 : decode cX3_dropFrame 37 = .ok (.iconst 1, 1) := by decide +kernel
theorem dX3_dropFrame_38 : decode cX3_dropFrame 38 = .ok (.isub, 1) := by decide +kernel
theorem dX3_dropFrame_39 : decode cX3_dropFrame 39 = .ok (.aload_n 0, 1) := by decide +kernel
theorem dX3_dropFrame_40 : decode cX3_dropFrame 40 = .ok (.getfield 23, 3) := by decide +kernel
theorem dX3_dropFrame_43 : decode cX3_dropFrame 43 = .ok (.iload_n 3, 1) := by decide +kernel
theorem dX3_dropFrame_44 : decode cX3_dropFrame 44 = .ok (.aaload, 1) := by decide +kernel
theorem dX3_dropFrame_45 : decode cX3_dropFrame 45 = .ok (.aastore, 1) := by decide +kernel
theorem dX3_dropFrame_46 : decode cX3_dropFrame 46 = .ok (.iinc 3 1, 3) := by decide +kernel
theorem dX3_dropFrame_49 : decode cX3_dropFrame 49 = .ok (.goto (-34), 3) := by decide +kernel
theorem dX3_dropFrame_52 : decode cX3_dropFrame 52 = .ok (.aload_n 0, 1) := by decide +kernel
theorem dX3_dropFrame_53 : decode cX3_dropFrame 53 = .ok (.getfield 67, 3) := by decide +kernel
theorem dX3_dropFrame_56 : decode cX3_dropFrame 56 = .ok (.iconst 1, 1) := by decide +kernel
theorem dX3_dropFrame_57 : decode cX3_dropFrame 57 = .ok (.isub, 1) := by decide +kernel
theorem dX3_dropFrame_58 : decode cX3_dropFrame 58 = .ok (.istore_n 3, 1) := by decide +kernel
theorem dX3_dropFrame_59 : decode cX3_dropFrame 59 = .ok (.iload_n 3, 1) := by decide +kernel
theorem dX3_dropFrame_60 : decode cX3_dropFrame 60 = .ok (.ifCond .lt 24, 3) := by decide +kernel
theorem dX3_dropFrame_63 : decode cX3_dropFrame 63 = .ok (.iload_n 3, 1) := by decide +kernel
theorem dX3_dropFrame_64 : decode cX3_dropFrame 64 = .ok (.aload_n 0, 1) := by decide +kernel
theorem dX3_dropFrame_65 : decode cX3_dropFrame 65 = .ok (.getfield 23, 3) := by decide +kernel
theorem dX3_dropFrame_68 : decode cX3_dropFrame 68 = .ok (.arraylength, 1) := by decide +kernel
theorem dX3_dropFrame_69 : decode cX3_dropFrame 69 = .ok (.if_icmp .ge 15, 3) := by decide +kernel
theorem dX3_dropFrame_72 : decode cX3_dropFrame 72 = .ok (.aload_n 0, 1) := by decide +kernel
theorem dX3_dropFrame_73 : decode cX3_dropFrame 73 = .ok (.getfield 23, 3) := by decide +kernel
theorem dX3_dropFrame_76 : decode cX3_dropFrame 76 = .ok (.iload_n 3, 1) := by decide +kernel
theorem dX3_dropFrame_77 : decode cX3_dropFrame 77 = .ok (.aload_n 2, 1) := by decide +kernel
theorem dX3_dropFrame_78 : decode cX3_dropFrame 78 = .ok (.aastore, 1) := by decide +kernel
theorem dX3_dropFrame_79 : decode cX3_dropFrame 79 = .ok (.aload_n 0, 1) := by decide +kernel
theorem dX3_dropFrame_80 : decode cX3_dropFrame 80 = .ok (.iload_n 3, 1) := by decide +kernel
theorem dX3_dropFrame_81 : decode cX3_dropFrame 81 = .ok (.putfield 67, 3) := by decide +kernel
theorem dX3_dropFrame_84 : decode cX3_dropFrame 84 = .ok (.return_, 1) := by decide +kernel
theorem dX3_photograph_0 : decode cX3_photograph 0 = .ok (.aload_n 0, 1) := by decide +kernel
theorem dX3_photograph_1 : decode cX3_photograph 1 = .ok (.iconst 0, 1) := by decide +kernel
theorem dX3_photograph_2 : decode cX3_photograph 2 = .ok (.invokevirtual 106, 3) := by decide +kernel
theorem dX3_photograph_5 : decode cX3_photograph 5 = .ok (.istore 4, 2) := by decide +kernel
theorem dX3_photograph_7 : decode cX3_photograph 7 = .ok (.aload_n 1, 1) := by decide +kernel
theorem dX3_photograph_8 : decode cX3_photograph 8 = .ok (.iload_n 2, 1) := by decide +kernel
theorem dX3_photograph_9 : decode cX3_photograph 9 = .ok (.putfield 110, 3) := by decide +kernel
theorem dX3_photograph_12 : decode cX3_photograph 12 = .ok (.aload_n 1, 1) := by decide +kernel
theorem dX3_photograph_13 : decode cX3_photograph 13 = .ok (.aload_n 0, 1) := by decide +kernel
theorem dX3_photograph_14 : decode cX3_photograph 14 = .ok (.getfield 53, 3) := by decide +kernel
theorem dX3_photograph_17 : decode cX3_photograph 17 = .ok (.iconst 1, 1) := by decide +kernel
theorem dX3_photograph_18 : decode cX3_photograph 18 = .ok (.iload 4, 2) := by decide +kernel
theorem dX3_photograph_20 : decode cX3_photograph 20 = .ok (.ishl, 1) := by decide +kernel
theorem dX3_photograph_21 : decode cX3_photograph 21 = .ok (.iconst 1, 1) := by decide +kernel
theorem dX3_photograph_22 : decode cX3_photograph 22 = .ok (.isub, 1) := by decide +kernel
theorem dX3_photograph_23 : decode cX3_photograph 23 = .ok (.iand, 1) := by decide +kernel
theorem dX3_photograph_24 : decode cX3_photograph 24 = .ok (.putfield 111, 3) := by decide +kernel
theorem dX3_photograph_27 : decode cX3_photograph 27 = .ok (.iconst 0, 1) := by decide +kernel
theorem dX3_photograph_28 : decode cX3_photograph 28 = .ok (.istore 5, 2) := by decide +kernel
theorem dX3_photograph_30 : decode cX3_photograph 30 = .ok (.iload 5, 2) := by decide +kernel
theorem dX3_photograph_32 : decode cX3_photograph 32 = .ok (.iload 4, 2) := by decide +kernel
theorem dX3_photograph_34 : decode cX3_photograph 34 = .ok (.if_icmp .ge 54, 3) := by decide +kernel
theorem dX3_photograph_37 : decode cX3_photograph 37 = .ok (.aload_n 0, 1) := by decide +kernel
theorem dX3_photograph_38 : decode cX3_photograph 38 = .ok (.getfield 53, 3) := by decide +kernel
theorem dX3_photograph_41 : decode cX3_photograph 41 = .ok (.iload 5, 2) := by decide +kernel
theorem dX3_photograph_43 : decode cX3_photograph 43 = .ok (.invokestatic 112, 3) := by decide +kernel
theorem dX3_photograph_46 : decode cX3_photograph 46 = .ok (.ifCond .ne 36, 3) := by decide +kernel
theorem dX3_photograph_49 : decode cX3_photograph 49 = .ok (.aload_n 0, 1) := by decide +kernel
theorem dX3_photograph_50 : decode cX3_photograph 50 = .ok (.aload_n 1, 1) := by decide +kernel
theorem dX3_photograph_51 : decode cX3_photograph 51 = .ok (.iload 5, 2) := by decide +kernel
theorem dX3_photograph_53 : decode cX3_photograph 53 = .ok (.invokevirtual 116, 3) := by decide +kernel
theorem dX3_photograph_56 : decode cX3_photograph 56 = .ok (.istore 6, 2) := by decide +kernel
theorem dX3_photograph_58 : decode cX3_photograph 58 = .ok (.aload_n 0, 1) := by decide +kernel
theorem dX3_photograph_59 : decode cX3_photograph 59 = .ok (.iload 5, 2) := by decide +kernel
theorem dX3_photograph_61 : decode cX3_photograph 61 = .ok (.iload 6, 2) := by decide +kernel
theorem dX3_photograph_63 : decode cX3_photograph 63 = .ok (.iconst (-1), 1) := by decide +kernel
theorem dX3_photograph_64 : decode cX3_photograph 64 = .ok (.iconst 0, 1) := by decide +kernel
theorem dX3_photograph_65 : decode cX3_photograph 65 = .ok (.aload_n 3, 1) := by decide +kernel
theorem dX3_photograph_66 : decode cX3_photograph 66 = .ok (.invokevirtual 120, 3) := by decide +kernel
theorem dX3_photograph_69 : decode cX3_photograph 69 = .ok (.aload_n 1, 1) := by decide +kernel
theorem dX3_photograph_70 : decode cX3_photograph 70 = .ok (.iload 5, 2) := by decide +kernel
theorem dX3_photograph_72 : decode cX3_photograph 72 = .ok (.aload_n 3, 1) := by decide +kernel
theorem dX3_photograph_73 : decode cX3_photograph 73 = .ok (.aload_n 0, 1) := by decide +kernel
theorem dX3_photograph_74 : decode cX3_photograph 74 = .ok (.iload 6, 2) := by decide +kernel
theorem dX3_photograph_76 : decode cX3_photograph 76 = .ok (.invokevirtual 124, 3) := by decide +kernel
theorem dX3_photograph_79 : decode cX3_photograph 79 = .ok (.invokevirtual 127, 3) := by decide +kernel
theorem dX3_photograph_82 : decode cX3_photograph 82 = .ok (.iinc 5 1, 3) := by decide +kernel
theorem dX3_photograph_85 : decode cX3_photograph 85 = .ok (.goto (-55), 3) := by decide +kernel
theorem dX3_photograph_88 : decode cX3_photograph 88 = .ok (.return_, 1) := by decide +kernel
theorem dX3_timeOfRow_0 : decode cX3_timeOfRow 0 = .ok (.aload_n 1, 1) := by decide +kernel
theorem dX3_timeOfRow_1 : decode cX3_timeOfRow 1 = .ok (.getfield 110, 3) := by decide +kernel
theorem dX3_timeOfRow_4 : decode cX3_timeOfRow 4 = .ok (.iload_n 2, 1) := by decide +kernel
theorem dX3_timeOfRow_5 : decode cX3_timeOfRow 5 = .ok (.aload_n 0, 1) := by decide +kernel
theorem dX3_timeOfRow_6 : decode cX3_timeOfRow 6 = .ok (.iconst 2, 1) := by decide +kernel
theorem dX3_timeOfRow_7 : decode cX3_timeOfRow 7 = .ok (.invokevirtual 106, 3) := by decide +kernel
theorem dX3_timeOfRow_10 : decode cX3_timeOfRow 10 = .ok (.imul, 1) := by decide +kernel
theorem dX3_timeOfRow_11 : decode cX3_timeOfRow 11 = .ok (.iadd, 1) := by decide +kernel
theorem dX3_timeOfRow_12 : decode cX3_timeOfRow 12 = .ok (.ireturn, 1) := by decide +kernel
theorem dX3_percentAt_0 : decode cX3_percentAt 0 = .ok (.iload_n 1, 1) := by decide +kernel
theorem dX3_percentAt_1 : decode cX3_percentAt 1 = .ok (.aload_n 0, 1) := by decide +kernel
theorem dX3_percentAt_2 : decode cX3_percentAt 2 = .ok (.iconst 5, 1) := by decide +kernel
theorem dX3_percentAt_3 : decode cX3_percentAt 3 = .ok (.invokevirtual 106, 3) := by decide +kernel
theorem dX3_percentAt_6 : decode cX3_percentAt 6 = .ok (.aload_n 0, 1) := by decide +kernel
theorem dX3_percentAt_7 : decode cX3_percentAt 7 = .ok (.bipush 6, 2) := by decide +kernel
theorem dX3_percentAt_9 : decode cX3_percentAt 9 = .ok (.invokevirtual 106, 3) := by decide +kernel
theorem dX3_percentAt_12 : decode cX3_percentAt 12 = .ok (.invokestatic 131, 3) := by decide +kernel
theorem dX3_percentAt_15 : decode cX3_percentAt 15 = .ok (.ifCond .eq 12, 3) := by decide +kernel
theorem dX3_percentAt_18 : decode cX3_percentAt 18 = .ok (.aload_n 0, 1) := by decide +kernel
theorem dX3_percentAt_19 : decode cX3_percentAt 19 = .ok (.bipush 7, 2) := by decide +kernel
theorem dX3_percentAt_21 : decode cX3_percentAt 21 = .ok (.invokevirtual 106, 3) := by decide +kernel
theorem dX3_percentAt_24 : decode cX3_percentAt 24 = .ok (.goto 5, 3) := by decide +kernel
theorem dX3_percentAt_27 : decode cX3_percentAt 27 = .ok (.bipush 100, 2) := by decide +kernel
theorem dX3_percentAt_29 : decode cX3_percentAt 29 = .ok (.ireturn, 1) := by decide +kernel
theorem dX3_paint_0 : decode cX3_paint 0 = .ok (.aload_n 0, 1) := by decide +kernel
theorem dX3_paint_1 : decode cX3_paint 1 = .ok (.iconst 4, 1) := by decide +kernel
theorem dX3_paint_2 : decode cX3_paint 2 = .ok (.invokevirtual 106, 3) := by decide +kernel
theorem dX3_paint_5 : decode cX3_paint 5 = .ok (.istore 6, 2) := by decide +kernel
theorem dX3_paint_7 : decode cX3_paint 7 = .ok (.iconst 0, 1) := by decide +kernel
theorem dX3_paint_8 : decode cX3_paint 8 = .ok (.istore 7, 2) := by decide +kernel
theorem dX3_paint_10 : decode cX3_paint 10 = .ok (.iload 7, 2) := by decide +kernel
theorem dX3_paint_12 : decode cX3_paint 12 = .ok (.aload 5, 2) := by decide +kernel
theorem dX3_paint_14 : decode cX3_paint 14 = .ok (.arraylength, 1) := by decide +kernel
theorem dX3_paint_15 : decode cX3_paint 15 = .ok (.if_icmp .ge 16, 3) := by decide +kernel
theorem dX3_paint_18 : decode cX3_paint 18 = .ok (.aload 5, 2) := by decide +kernel
theorem dX3_paint_20 : decode cX3_paint 20 = .ok (.iload 7, 2) := by decide +kernel
theorem dX3_paint_22 : decode cX3_paint 22 = .ok (.iload 6, 2) := by decide +kernel
theorem dX3_paint_24 : decode cX3_paint 24 = .ok (.iastore, 1) := by decide +kernel
theorem dX3_paint_25 : decode cX3_paint 25 = .ok (.iinc 7 1, 3) := by decide +kernel
theorem dX3_paint_28 : decode cX3_paint 28 = .ok (.goto (-18), 3) := by decide +kernel
theorem dX3_paint_31 : decode cX3_paint 31 = .ok (.iconst 0, 1) := by decide +kernel
theorem dX3_paint_32 : decode cX3_paint 32 = .ok (.istore 7, 2) := by decide +kernel
theorem dX3_paint_34 : decode cX3_paint 34 = .ok (.iload 7, 2) := by decide +kernel
theorem dX3_paint_36 : decode cX3_paint 36 = .ok (.aload_n 0, 1) := by decide +kernel
theorem dX3_paint_37 : decode cX3_paint 37 = .ok (.getfield 56, 3) := by decide +kernel
theorem dX3_paint_40 : decode cX3_paint 40 = .ok (.if_icmp .ge 71, 3) := by decide +kernel
theorem dX3_paint_43 : decode cX3_paint 43 = .ok (.aload_n 0, 1) := by decide +kernel
theorem dX3_paint_44 : decode cX3_paint 44 = .ok (.iload 7, 2) := by decide +kernel
theorem dX3_paint_46 : decode cX3_paint 46 = .ok (.invokevirtual 59, 3) := by decide +kernel
theorem dX3_paint_49 : decode cX3_paint 49 = .ok (.astore 8, 2) := by decide +kernel
theorem dX3_paint_51 : decode cX3_paint 51 = .ok (.aload 8, 2) := by decide +kernel
theorem dX3_paint_53 : decode cX3_paint 53 = .ok (.ifnull 52, 3) := by decide +kernel
theorem dX3_paint_56 : decode cX3_paint 56 = .ok (.aload 8, 2) := by decide +kernel
theorem dX3_paint_58 : decode cX3_paint 58 = .ok (.iload_n 1, 1) := by decide +kernel
theorem dX3_paint_59 : decode cX3_paint 59 = .ok (.invokevirtual 135, 3) := by decide +kernel
theorem dX3_paint_62 : decode cX3_paint 62 = .ok (.ifCond .eq 43, 3) := by decide +kernel
theorem dX3_paint_65 : decode cX3_paint 65 = .ok (.iload 7, 2) := by decide +kernel
theorem dX3_paint_67 : decode cX3_paint 67 = .ok (.iload_n 3, 1) := by decide +kernel
theorem dX3_paint_68 : decode cX3_paint 68 = .ok (.if_icmp .ne 8, 3) := by decide +kernel
theorem dX3_paint_71 : decode cX3_paint 71 = .ok (.iload 4, 2) := by decide +kernel
theorem dX3_paint_73 : decode cX3_paint 73 = .ok (.goto 17, 3) := by decide +kernel
theorem dX3_paint_76 : decode cX3_paint 76 = .ok (.aload 8, 2) := by decide +kernel
theorem dX3_paint_78 : decode cX3_paint 78 = .ok (.iload_n 2, 1) := by decide +kernel
theorem dX3_paint_79 : decode cX3_paint 79 = .ok (.invokevirtual 139, 3) := by decide +kernel
theorem dX3_paint_82 : decode cX3_paint 82 = .ok (.aload 8, 2) := by decide +kernel
theorem dX3_paint_84 : decode cX3_paint 84 = .ok (.getfield 92, 3) := by decide +kernel
theorem dX3_paint_87 : decode cX3_paint 87 = .ok (.invokestatic 142, 3) := by decide +kernel
theorem dX3_paint_90 : decode cX3_paint 90 = .ok (.istore 9, 2) := by decide +kernel
theorem dX3_paint_92 : decode cX3_paint 92 = .ok (.aload_n 0, 1) := by decide +kernel
theorem dX3_paint_93 : decode cX3_paint 93 = .ok (.aload 5, 2) := by decide +kernel
theorem dX3_paint_95 : decode cX3_paint 95 = .ok (.iload 9, 2) := by decide +kernel
theorem dX3_paint_97 : decode cX3_paint 97 = .ok (.aload 8, 2) := by decide +kernel
theorem dX3_paint_99 : decode cX3_paint 99 = .ok (.getfield 95, 3) := by decide +kernel
theorem dX3_paint_102 : decode cX3_paint 102 = .ok (.invokevirtual 146, 3) := by decide +kernel
theorem dX3_paint_105 : decode cX3_paint 105 = .ok (.iinc 7 1, 3) := by decide +kernel
theorem dX3_paint_108 : decode cX3_paint 108 = .ok (.goto (-74), 3) := by decide +kernel
theorem dX3_paint_111 : decode cX3_paint 111 = .ok (.return_, 1) := by decide +kernel
theorem dX3_paintOver_0 : decode cX3_paintOver 0 = .ok (.iconst 0, 1) := by decide +kernel
theorem dX3_paintOver_1 : decode cX3_paintOver 1 = .ok (.istore 4, 2) := by decide +kernel
theorem dX3_paintOver_3 : decode cX3_paintOver 3 = .ok (.iload 4, 2) := by decide +kernel
theorem dX3_paintOver_5 : decode cX3_paintOver 5 = .ok (.aload_n 1, 1) := by decide +kernel
theorem dX3_paintOver_6 : decode cX3_paintOver 6 = .ok (.arraylength, 1) := by decide +kernel
theorem dX3_paintOver_7 : decode cX3_paintOver 7 = .ok (.if_icmp .ge 23, 3) := by decide +kernel
theorem dX3_paintOver_10 : decode cX3_paintOver 10 = .ok (.iload_n 2, 1) := by decide +kernel
theorem dX3_paintOver_11 : decode cX3_paintOver 11 = .ok (.iload 4, 2) := by decide +kernel
theorem dX3_paintOver_13 : decode cX3_paintOver 13 = .ok (.invokestatic 112, 3) := by decide +kernel
theorem dX3_paintOver_16 : decode cX3_paintOver 16 = .ok (.ifCond .eq 8, 3) := by decide +kernel
theorem dX3_paintOver_19 : decode cX3_paintOver 19 = .ok (.aload_n 1, 1) := by decide +kernel
theorem dX3_paintOver_20 : decode cX3_paintOver 20 = .ok (.iload 4, 2) := by decide +kernel
theorem dX3_paintOver_22 : decode cX3_paintOver 22 = .ok (.iload_n 3, 1) := by decide +kernel
theorem dX3_paintOver_23 : decode cX3_paintOver 23 = .ok (.iastore, 1) := by decide +kernel
theorem dX3_paintOver_24 : decode cX3_paintOver 24 = .ok (.iinc 4 1, 3) := by decide +kernel
theorem dX3_paintOver_27 : decode cX3_paintOver 27 = .ok (.goto (-24), 3) := by decide +kernel
theorem dX3_paintOver_30 : decode cX3_paintOver 30 = .ok (.return_, 1) := by decide +kernel
theorem dX3_edgesIn_0 : decode cX3_edgesIn 0 = .ok (.aload_n 0, 1) := by decide +kernel
theorem dX3_edgesIn_1 : decode cX3_edgesIn 1 = .ok (.iconst 3, 1) := by decide +kernel
theorem dX3_edgesIn_2 : decode cX3_edgesIn 2 = .ok (.invokevirtual 106, 3) := by decide +kernel
theorem dX3_edgesIn_5 : decode cX3_edgesIn 5 = .ok (.istore_n 3, 1) := by decide +kernel
theorem dX3_edgesIn_6 : decode cX3_edgesIn 6 = .ok (.iconst 0, 1) := by decide +kernel
theorem dX3_edgesIn_7 : decode cX3_edgesIn 7 = .ok (.istore 4, 2) := by decide +kernel
theorem dX3_edgesIn_9 : decode cX3_edgesIn 9 = .ok (.aload_n 1, 1) := by decide +kernel
theorem dX3_edgesIn_10 : decode cX3_edgesIn 10 = .ok (.getfield 111, 3) := by decide +kernel
theorem dX3_edgesIn_13 : decode cX3_edgesIn 13 = .ok (.iload_n 2, 1) := by decide +kernel
theorem dX3_edgesIn_14 : decode cX3_edgesIn 14 = .ok (.invokestatic 112, 3) := by decide +kernel
theorem dX3_edgesIn_17 : decode cX3_edgesIn 17 = .ok (.ifCond .eq 5, 3) := by decide +kernel
theorem dX3_edgesIn_20 : decode cX3_edgesIn 20 = .ok (.iconst 0, 1) := by decide +kernel
theorem dX3_edgesIn_21 : decode cX3_edgesIn 21 = .ok (.ireturn, 1) := by decide +kernel
theorem dX3_edgesIn_22 : decode cX3_edgesIn 22 = .ok (.iconst 1, 1) := by decide +kernel
theorem dX3_edgesIn_23 : decode cX3_edgesIn 23 = .ok (.istore 5, 2) := by decide +kernel
theorem dX3_edgesIn_25 : decode cX3_edgesIn 25 = .ok (.iload 5, 2) := by decide +kernel
theorem dX3_edgesIn_27 : decode cX3_edgesIn 27 = .ok (.aload_n 0, 1) := by decide +kernel
theorem dX3_edgesIn_28 : decode cX3_edgesIn 28 = .ok (.iconst 1, 1) := by decide +kernel
theorem dX3_edgesIn_29 : decode cX3_edgesIn 29 = .ok (.invokevirtual 106, 3) := by decide +kernel
theorem dX3_edgesIn_32 : decode cX3_edgesIn 32 = .ok (.if_icmp .ge 46, 3) := by decide +kernel
theorem dX3_edgesIn_35 : decode cX3_edgesIn 35 = .ok (.aload_n 1, 1) := by decide +kernel
theorem dX3_edgesIn_36 : decode cX3_edgesIn 36 = .ok (.iload_n 2, 1) := by decide +kernel
theorem dX3_edgesIn_37 : decode cX3_edgesIn 37 = .ok (.iload 5, 2) := by decide +kernel
theorem dX3_edgesIn_39 : decode cX3_edgesIn 39 = .ok (.invokevirtual 150, 3) := by decide +kernel
theorem dX3_edgesIn_42 : decode cX3_edgesIn 42 = .ok (.aload_n 1, 1) := by decide +kernel
theorem dX3_edgesIn_43 : decode cX3_edgesIn 43 = .ok (.iload_n 2, 1) := by decide +kernel
theorem dX3_edgesIn_44 : decode cX3_edgesIn 44 = .ok (.iload 5, 2) := by decide +kernel
theorem dX3_edgesIn_46 : decode cX3_edgesIn 46 = .ok (.iconst 1, 1) := by decide +kernel
theorem dX3_edgesIn_47 : decode cX3_edgesIn 47 = .ok (.isub, 1) := by decide +kernel
theorem dX3_edgesIn_48 : decode cX3_edgesIn 48 = .ok (.invokevirtual 150, 3) := by decide +kernel
theorem dX3_edgesIn_51 : decode cX3_edgesIn 51 = .ok (.isub, 1) := by decide +kernel
theorem dX3_edgesIn_52 : decode cX3_edgesIn 52 = .ok (.istore 6, 2) := by decide +kernel
theorem dX3_edgesIn_54 : decode cX3_edgesIn 54 = .ok (.iload 6, 2) := by decide +kernel
theorem dX3_edgesIn_56 : decode cX3_edgesIn 56 = .ok (.invokestatic 153, 3) := by decide +kernel
theorem dX3_edgesIn_59 : decode cX3_edgesIn 59 = .ok (.iload_n 3, 1) := by decide +kernel
theorem dX3_edgesIn_60 : decode cX3_edgesIn 60 = .ok (.if_icmp .lt 12, 3) := by decide +kernel
theorem dX3_edgesIn_63 : decode cX3_edgesIn 63 = .ok (.iload 4, 2) := by decide +kernel
theorem dX3_edgesIn_65 : decode cX3_edgesIn 65 = .ok (.iconst 1, 1) := by decide +kernel
theorem dX3_edgesIn_66 : decode cX3_edgesIn 66 = .ok (.iload 5, 2) := by decide +kernel
theorem dX3_edgesIn_68 : decode cX3_edgesIn 68 = .ok (.ishl, 1) := by decide +kernel
theorem dX3_edgesIn_69 : decode cX3_edgesIn 69 = .ok (.ior, 1) := by decide +kernel
theorem dX3_edgesIn_70 : decode cX3_edgesIn 70 = .ok (.istore 4, 2) := by decide +kernel
theorem dX3_edgesIn_72 : decode cX3_edgesIn 72 = .ok (.iinc 5 1, 3) := by decide +kernel
theorem dX3_edgesIn_75 : decode cX3_edgesIn 75 = .ok (.goto (-50), 3) := by decide +kernel
theorem dX3_edgesIn_78 : decode cX3_edgesIn 78 = .ok (.iload 4, 2) := by decide +kernel
theorem dX3_edgesIn_80 : decode cX3_edgesIn 80 = .ok (.ireturn, 1) := by decide +kernel
theorem dX3_weightOf_0 : decode cX3_weightOf 0 = .ok (.iconst 1, 1) := by decide +kernel
theorem dX3_weightOf_1 : decode cX3_weightOf 1 = .ok (.iconst 0, 1) := by decide +kernel
theorem dX3_weightOf_2 : decode cX3_weightOf 2 = .ok (.aload_n 0, 1) := by decide +kernel
theorem dX3_weightOf_3 : decode cX3_weightOf 3 = .ok (.getfield 27, 3) := by decide +kernel
theorem dX3_weightOf_6 : decode cX3_weightOf 6 = .ok (.iload_n 1, 1) := by decide +kernel
theorem dX3_weightOf_7 : decode cX3_weightOf 7 = .ok (.invokestatic 36, 3) := by decide +kernel
theorem dX3_weightOf_10 : decode cX3_weightOf 10 = .ok (.aload_n 0, 1) := by decide +kernel
theorem dX3_weightOf_11 : decode cX3_weightOf 11 = .ok (.getfield 30, 3) := by decide +kernel
theorem dX3_weightOf_14 : decode cX3_weightOf 14 = .ok (.iload_n 1, 1) := by decide +kernel
theorem dX3_weightOf_15 : decode cX3_weightOf 15 = .ok (.invokestatic 36, 3) := by decide +kernel
theorem dX3_weightOf_18 : decode cX3_weightOf 18 = .ok (.isub, 1) := by decide +kernel
theorem dX3_weightOf_19 : decode cX3_weightOf 19 = .ok (.invokestatic 158, 3) := by decide +kernel
theorem dX3_weightOf_22 : decode cX3_weightOf 22 = .ok (.iadd, 1) := by decide +kernel
theorem dX3_weightOf_23 : decode cX3_weightOf 23 = .ok (.ireturn, 1) := by decide +kernel
theorem dX4_init_0 : decode cX4_init 0 = .ok (.aload_n 0, 1) := by decide +kernel
theorem dX4_init_1 : decode cX4_init 1 = .ok (.invokespecial 3, 3) := by decide +kernel
theorem dX4_init_4 : decode cX4_init 4 = .ok (.aload_n 0, 1) := by decide +kernel
theorem dX4_init_5 : decode cX4_init 5 = .ok (.bipush 80, 2) := by decide +kernel
theorem dX4_init_7 : decode cX4_init 7 = .ok (.newarray .char, 2) := by decide +kernel
theorem dX4_init_9 : decode cX4_init 9 = .ok (.putfield 9, 3) := by decide +kernel
theorem dX4_init_12 : decode cX4_init 12 = .ok (.aload_n 0, 1) := by decide +kernel
theorem dX4_init_13 : decode cX4_init 13 = .ok (.new 15, 3) := by decide +kernel
theorem dX4_init_16 : decode cX4_init 16 = .ok (.dup, 1) := by decide +kernel
theorem dX4_init_17 : decode cX4_init 17 = .ok (.invokespecial 17, 3) := by decide +kernel
theorem dX4_init_20 : decode cX4_init 20 = .ok (.putfield 18, 3) := by decide +kernel
theorem dX4_init_23 : decode cX4_init 23 = .ok (.return_, 1) := by decide +kernel
theorem dX5_init_0 : decode cX5_init 0 = .ok (.aload_n 0, 1) := by decide +kernel
theorem dX5_init_1 : decode cX5_init 1 = .ok (.invokespecial 1, 3) := by decide +kernel
theorem dX5_init_4 : decode cX5_init 4 = .ok (.return_, 1) := by decide +kernel
theorem dX5_become_0 : decode cX5_become 0 = .ok (.aload_n 0, 1) := by decide +kernel
theorem dX5_become_1 : decode cX5_become 1 = .ok (.aload_n 1, 1) := by decide +kernel
theorem dX5_become_2 : decode cX5_become 2 = .ok (.getfield 7, 3) := by decide +kernel
theorem dX5_become_5 : decode cX5_become 5 = .ok (.putfield 7, 3) := by decide +kernel
theorem dX5_become_8 : decode cX5_become 8 = .ok (.aload_n 0, 1) := by decide +kernel
theorem dX5_become_9 : decode cX5_become 9 = .ok (.aload_n 1, 1) := by decide +kernel
theorem dX5_become_10 : decode cX5_become 10 = .ok (.getfield 13, 3) := by decide +kernel
theorem dX5_become_13 : decode cX5_become 13 = .ok (.putfield 13, 3) := by decide +kernel
theorem dX5_become_16 : decode cX5_become 16 = .ok (.aload_n 0, 1) := by decide +kernel
theorem dX5_become_17 : decode cX5_become 17 = .ok (.aload_n 1, 1) := by decide +kernel
theorem dX5_become_18 : decode cX5_become 18 = .ok (.getfield 16, 3) := by decide +kernel
theorem dX5_become_21 : decode cX5_become 21 = .ok (.putfield 16, 3) := by decide +kernel
theorem dX5_become_24 : decode cX5_become 24 = .ok (.aload_n 0, 1) := by decide +kernel
theorem dX5_become_25 : decode cX5_become 25 = .ok (.aload_n 1, 1) := by decide +kernel
theorem dX5_become_26 : decode cX5_become 26 = .ok (.getfield 19, 3) := by decide +kernel
theorem dX5_become_29 : decode cX5_become 29 = .ok (.putfield 19, 3) := by decide +kernel
theorem dX5_become_32 : decode cX5_become 32 = .ok (.aload_n 0, 1) := by decide +kernel
theorem dX5_become_33 : decode cX5_become 33 = .ok (.aload_n 1, 1) := by decide +kernel
theorem dX5_become_34 : decode cX5_become 34 = .ok (.getfield 22, 3) := by decide +kernel
theorem dX5_become_37 : decode cX5_become 37 = .ok (.putfield 22, 3) := by decide +kernel
theorem dX5_become_40 : decode cX5_become 40 = .ok (.aload_n 0, 1) := by decide +kernel
theorem dX5_become_41 : decode cX5_become 41 = .ok (.aload_n 1, 1) := by decide +kernel
theorem dX5_become_42 : decode cX5_become 42 = .ok (.getfield 25, 3) := by decide +kernel
theorem dX5_become_45 : decode cX5_become 45 = .ok (.putfield 25, 3) := by decide +kernel
theorem dX5_become_48 : decode cX5_become 48 = .ok (.return_, 1) := by decide +kernel
theorem dX5_numberOf_0 : decode cX5_numberOf 0 = .ok (.iload_n 1, 1) := by decide +kernel
theorem dX5_numberOf_1 : decode cX5_numberOf 1 = .ok (.tableswitch 60 0 4 #[35, 40, 45, 50, 55], 35) := by decide +kernel
theorem dX5_numberOf_36 : decode cX5_numberOf 36 = .ok (.aload_n 0, 1) := by decide +kernel
theorem dX5_numberOf_37 : decode cX5_numberOf 37 = .ok (.getfield 7, 3) := by decide +kernel
theorem dX5_numberOf_40 : decode cX5_numberOf 40 = .ok (.ireturn, 1) := by decide +kernel
theorem dX5_numberOf_41 : decode cX5_numberOf 41 = .ok (.aload_n 0, 1) := by decide +kernel
theorem dX5_numberOf_42 : decode cX5_numberOf 42 = .ok (.getfield 13, 3) := by decide +kernel
theorem dX5_numberOf_45 : decode cX5_numberOf 45 = .ok (.ireturn, 1) := by decide +kernel
theorem dX5_numberOf_46 : decode cX5_numberOf 46 = .ok (.aload_n 0, 1) := by decide +kernel
theorem dX5_numberOf_47 : decode cX5_numberOf 47 = .ok (.getfield 16, 3) := by decide +kernel
theorem dX5_numberOf_50 : decode cX5_numberOf 50 = .ok (.ireturn, 1) := by decide +kernel
theorem dX5_numberOf_51 : decode cX5_numberOf 51 = .ok (.aload_n 0, 1) := by decide +kernel
theorem dX5_numberOf_52 : decode cX5_numberOf 52 = .ok (.getfield 19, 3) := by decide +kernel
theorem dX5_numberOf_55 : decode cX5_numberOf 55 = .ok (.ireturn, 1) := by decide +kernel
theorem dX5_numberOf_56 : decode cX5_numberOf 56 = .ok (.aload_n 0, 1) := by decide +kernel
theorem dX5_numberOf_57 : decode cX5_numberOf 57 = .ok (.getfield 22, 3) := by decide +kernel
theorem dX5_numberOf_60 : decode cX5_numberOf 60 = .ok (.ireturn, 1) := by decide +kernel
theorem dX5_numberOf_61 : decode cX5_numberOf 61 = .ok (.aload_n 0, 1) := by decide +kernel
theorem dX5_numberOf_62 : decode cX5_numberOf 62 = .ok (.getfield 25, 3) := by decide +kernel
theorem dX5_numberOf_65 : decode cX5_numberOf 65 = .ok (.ireturn, 1) := by decide +kernel
theorem dX5_isIn_0 : decode cX5_isIn 0 = .ok (.iload_n 1, 1) := by decide +kernel
theorem dX5_isIn_1 : decode cX5_isIn 1 = .ok (.aload_n 0, 1) := by decide +kernel
theorem dX5_isIn_2 : decode cX5_isIn 2 = .ok (.getfield 7, 3) := by decide +kernel
theorem dX5_isIn_5 : decode cX5_isIn 5 = .ok (.if_icmp .lt 15, 3) := by decide +kernel
theorem dX5_isIn_8 : decode cX5_isIn 8 = .ok (.iload_n 1, 1) := by decide +kernel
theorem dX5_isIn_9 : decode cX5_isIn 9 = .ok (.aload_n 0, 1) := by decide +kernel
theorem dX5_isIn_10 : decode cX5_isIn 10 = .ok (.getfield 13, 3) := by decide +kernel
theorem dX5_isIn_13 : decode cX5_isIn 13 = .ok (.if_icmp .gt 7, 3) := by decide +kernel
theorem dX5_isIn_16 : decode cX5_isIn 16 = .ok (.iconst 1, 1) := by decide +kernel
theorem dX5_isIn_17 : decode cX5_isIn 17 = .ok (.goto 4, 3) := by decide +kernel
theorem dX5_isIn_20 : decode cX5_isIn 20 = .ok (.iconst 0, 1) := by decide +kernel
theorem dX5_isIn_21 : decode cX5_isIn 21 = .ok (.ireturn, 1) := by decide +kernel
theorem dX5_positionAt_0 : decode cX5_positionAt 0 = .ok (.aload_n 0, 1) := by decide +kernel
theorem dX5_positionAt_1 : decode cX5_positionAt 1 = .ok (.getfield 16, 3) := by decide +kernel
theorem dX5_positionAt_4 : decode cX5_positionAt 4 = .ok (.aload_n 0, 1) := by decide +kernel
theorem dX5_positionAt_5 : decode cX5_positionAt 5 = .ok (.getfield 19, 3) := by decide +kernel
theorem dX5_positionAt_8 : decode cX5_positionAt 8 = .ok (.iload_n 1, 1) := by decide +kernel
theorem dX5_positionAt_9 : decode cX5_positionAt 9 = .ok (.imul, 1) := by decide +kernel
theorem dX5_positionAt_10 : decode cX5_positionAt 10 = .ok (.iadd, 1) := by decide +kernel
theorem dX5_positionAt_11 : decode cX5_positionAt 11 = .ok (.ireturn, 1) := by decide +kernel
theorem dX5_changeSpeed_0 : decode cX5_changeSpeed 0 = .ok (.aload_n 0, 1) := by decide +kernel
theorem dX5_changeSpeed_1 : decode cX5_changeSpeed 1 = .ok (.aload_n 0, 1) := by decide +kernel
theorem dX5_changeSpeed_2 : decode cX5_changeSpeed 2 = .ok (.iload_n 2, 1) := by decide +kernel
theorem dX5_changeSpeed_3 : decode cX5_changeSpeed 3 = .ok (.invokevirtual 28, 3) := by decide +kernel
theorem dX5_changeSpeed_6 : decode cX5_changeSpeed 6 = .ok (.iload_n 1, 1) := by decide +kernel
theorem dX5_changeSpeed_7 : decode cX5_changeSpeed 7 = .ok (.iload_n 2, 1) := by decide +kernel
theorem dX5_changeSpeed_8 : decode cX5_changeSpeed 8 = .ok (.imul, 1) := by decide +kernel
theorem dX5_changeSpeed_9 : decode cX5_changeSpeed 9 = .ok (.isub, 1) := by decide +kernel
theorem dX5_changeSpeed_10 : decode cX5_changeSpeed 10 = .ok (.putfield 16, 3) := by decide +kernel
theorem dX5_changeSpeed_13 : decode cX5_changeSpeed 13 = .ok (.aload_n 0, 1) := by decide +kernel
theorem dX5_changeSpeed_14 : decode cX5_changeSpeed 14 = .ok (.iload_n 1, 1) := by decide +kernel
theorem dX5_changeSpeed_15 : decode cX5_changeSpeed 15 = .ok (.putfield 19, 3) := by decide +kernel
theorem dX5_changeSpeed_18 : decode cX5_changeSpeed 18 = .ok (.return_, 1) := by decide +kernel
theorem dX6_init_0 : decode cX6_init 0 = .ok (.aload_n 0, 1) := by decide +kernel
theorem dX6_init_1 : decode cX6_init 1 = .ok (.invokespecial 3, 3) := by decide +kernel
theorem dX6_init_4 : decode cX6_init 4 = .ok (.aload_n 0, 1) := by decide +kernel
theorem dX6_init_5 : decode cX6_init 5 = .ok (.bipush 10, 2) := by decide +kernel
theorem dX6_init_7 : decode cX6_init 7 = .ok (.newarray .int, 2) := by decide +kernel
theorem dX6_init_9 : decode cX6_init 9 = .ok (.putfield 9, 3) := by decide +kernel
theorem dX6_init_12 : decode cX6_init 12 = .ok (.aload_n 0, 1) := by decide +kernel
theorem dX6_init_13 : decode cX6_init 13 = .ok (.bipush 10, 2) := by decide +kernel
theorem dX6_init_15 : decode cX6_init 15 = .ok (.newarray .int, 2) := by decide +kernel
theorem dX6_init_17 : decode cX6_init 17 = .ok (.putfield 15, 3) := by decide +kernel
theorem dX6_init_20 : decode cX6_init 20 = .ok (.aload_n 0, 1) := by decide +kernel
theorem dX6_init_21 : decode cX6_init 21 = .ok (.bipush 10, 2) := by decide +kernel
theorem dX6_init_23 : decode cX6_init 23 = .ok (.newarray .int, 2) := by decide +kernel
theorem dX6_init_25 : decode cX6_init 25 = .ok (.putfield 18, 3) := by decide +kernel
theorem dX6_init_28 : decode cX6_init 28 = .ok (.aload_n 0, 1) := by decide +kernel
theorem dX6_init_29 : decode cX6_init 29 = .ok (.bipush 17, 2) := by decide +kernel
theorem dX6_init_31 : decode cX6_init 31 = .ok (.newarray .int, 2) := by decide +kernel
theorem dX6_init_33 : decode cX6_init 33 = .ok (.putfield 21, 3) := by decide +kernel
theorem dX6_init_36 : decode cX6_init 36 = .ok (.return_, 1) := by decide +kernel
