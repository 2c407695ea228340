def RX0 : String := "SomebodysLift$Air"
def TX0 : u_T := fun k => match k with
  | 0 => ("SomebodysLift$Air", "steps", "[I", true)
  | 1 => ("SomebodysLift$Air", "stepCount", "I", false)
  | 2 => ("SomebodysLift$Air", "base", "I", false)
  | _ => ("SomebodysLift$Air", "safe", "I", false)
def tyX0 : Nat → FieldType := fun k => match k with
  | 0 => .array .int
  | 1 => .int
  | 2 => .int
  | _ => .int
abbrev wsX00 : List Cond := u_ws RX0 TX0 4
theorem nmX0 : ∀ a, a < 4 → ∀ b, b < 4 → a ≠ b → (TX0 a).2.1 ≠ (TX0 b).2.1 := by decide +kernel
theorem tyX0_ok : ∀ k, k < 4 → parseFieldDescriptor (TX0 k).2.2.1 = some (tyX0 k) := by decide +kernel
abbrev cX0_init : ByteArray := prog_2_method_1_code
def yX0_init : MethodName := ⟨RX0, "<init>", "()V"⟩
abbrev cX0_begin : ByteArray := prog_2_method_2_code
def yX0_begin : MethodName := ⟨RX0, "begin", "()V"⟩
abbrev cX0_addStep : ByteArray := prog_2_method_3_code
def yX0_addStep : MethodName := ⟨RX0, "addStep", "(III)V"⟩
abbrev cX0_more : ByteArray := prog_2_method_4_code
def yX0_more : MethodName := ⟨RX0, "more", "(LSomebodysLift$Lift;II)I"⟩
abbrev cX0_valueOf : ByteArray := prog_2_method_5_code
def yX0_valueOf : MethodName := ⟨RX0, "valueOf", "(ILSomebodysLift$Lift;II)I"⟩
abbrev cX0_tested : ByteArray := prog_2_method_6_code
def yX0_tested : MethodName := ⟨RX0, "tested", "(II)I"⟩
def RX1 : String := "SomebodysLift$AirReader"
def TX1 : u_T := fun k => match k with
  | 0 => ("SomebodysLift$AirReader", "bytes", "[B", true)
  | 1 => ("SomebodysLift$AirReader", "length", "I", false)
  | 2 => ("SomebodysLift$AirReader", "at", "I", false)
  | _ => ("SomebodysLift$AirReader", "air", "LSomebodysLift$Air;", false)
def tyX1 : Nat → FieldType := fun k => match k with
  | 0 => .array .byte
  | 1 => .int
  | 2 => .int
  | _ => .object "SomebodysLift$Air"
abbrev wsX10 : List Cond := u_ws RX1 TX1 4
theorem nmX1 : ∀ a, a < 4 → ∀ b, b < 4 → a ≠ b → (TX1 a).2.1 ≠ (TX1 b).2.1 := by decide +kernel
theorem tyX1_ok : ∀ k, k < 4 → parseFieldDescriptor (TX1 k).2.2.1 = some (tyX1 k) := by decide +kernel
abbrev cX1_init : ByteArray := prog_3_method_1_code
def yX1_init : MethodName := ⟨RX1, "<init>", "(LSomebodysLift$Air;)V"⟩
abbrev cX1_parse : ByteArray := prog_3_method_2_code
def yX1_parse : MethodName := ⟨RX1, "parse", "(LSomebodysLift$Air;)Z"⟩
abbrev cX1_clause : ByteArray := prog_3_method_3_code
def yX1_clause : MethodName := ⟨RX1, "clause", "()Z"⟩
abbrev cX1_wordWith : ByteArray := prog_3_method_4_code
def yX1_wordWith : MethodName := ⟨RX1, "wordWith", "(C)Ljava/lang/String;"⟩
abbrev cX1_expression : ByteArray := prog_3_method_5_code
def yX1_expression : MethodName := ⟨RX1, "expression", "(I)Z"⟩
abbrev cX1_factor : ByteArray := prog_3_method_6_code
def yX1_factor : MethodName := ⟨RX1, "factor", "(I)Z"⟩
abbrev cX1_test : ByteArray := prog_3_method_7_code
def yX1_test : MethodName := ⟨RX1, "test", "()Z"⟩
abbrev cX1_number : ByteArray := prog_3_method_8_code
def yX1_number : MethodName := ⟨RX1, "number", "()I"⟩
abbrev cX1_word : ByteArray := prog_3_method_9_code
def yX1_word : MethodName := ⟨RX1, "word", "(Ljava/lang/String;)Z"⟩
abbrev cX1_takes : ByteArray := prog_3_method_10_code
def yX1_takes : MethodName := ⟨RX1, "takes", "(C)Z"⟩
abbrev cX1_peeked : ByteArray := prog_3_method_11_code
def yX1_peeked : MethodName := ⟨RX1, "peeked", "()C"⟩
def RX2 : String := "SomebodysLift$Glider"
def TX2 : u_T := fun k => match k with
  | 0 => ("SomebodysLift$Glider", "mile", "I", false)
  | 1 => ("SomebodysLift$Glider", "height", "I", false)
  | _ => ("SomebodysLift$Glider", "minute", "I", false)
def tyX2 : Nat → FieldType := fun k => match k with
  | 0 => .int
  | 1 => .int
  | _ => .int
abbrev wsX20 : List Cond := u_ws RX2 TX2 3
theorem nmX2 : ∀ a, a < 3 → ∀ b, b < 3 → a ≠ b → (TX2 a).2.1 ≠ (TX2 b).2.1 := by decide +kernel
theorem tyX2_ok : ∀ k, k < 3 → parseFieldDescriptor (TX2 k).2.2.1 = some (tyX2 k) := by decide +kernel
abbrev cX2_init : ByteArray := prog_4_method_1_code
def yX2_init : MethodName := ⟨RX2, "<init>", "()V"⟩
abbrev cX2_sinkOfMile : ByteArray := prog_4_method_2_code
def yX2_sinkOfMile : MethodName := ⟨RX2, "sinkOfMile", "(I)I"⟩
abbrev cX2_copyFrom : ByteArray := prog_4_method_3_code
def yX2_copyFrom : MethodName := ⟨RX2, "copyFrom", "(LSomebodysLift$Glider;)V"⟩
abbrev cX2_glides : ByteArray := prog_4_method_4_code
def yX2_glides : MethodName := ⟨RX2, "glides", "(II)Z"⟩
abbrev cX2_circles : ByteArray := prog_4_method_5_code
def yX2_circles : MethodName := ⟨RX2, "circles", "(LSomebodysLift$Lift;LSomebodysLift$Air;I)V"⟩
def RX3 : String := "SomebodysLift$Lift"
def TX3 : u_T := fun k => match k with
  | 0 => ("SomebodysLift$Lift", "number", "I", true)
  | 1 => ("SomebodysLift$Lift", "row", "[I", true)
  | 2 => ("SomebodysLift$Lift", "kind", "I", false)
  | 3 => ("SomebodysLift$Lift", "v", "I", false)
  | 4 => ("SomebodysLift$Lift", "mile", "I", false)
  | 5 => ("SomebodysLift$Lift", "pull", "I", false)
  | 6 => ("SomebodysLift$Lift", "asked", "LSomebodysLift$Air;", false)
  | 7 => ("SomebodysLift$Lift", "askedHeight", "I", false)
  | 8 => ("SomebodysLift$Lift", "askedMinute", "I", false)
  | _ => ("SomebodysLift$Lift", "answered", "I", false)
def tyX3 : Nat → FieldType := fun k => match k with
  | 0 => .int
  | 1 => .array .int
  | 2 => .int
  | 3 => .int
  | 4 => .int
  | 5 => .int
  | 6 => .object "SomebodysLift$Air"
  | 7 => .int
  | 8 => .int
  | _ => .int
abbrev wsX30 : List Cond := u_ws RX3 TX3 10
theorem nmX3 : ∀ a, a < 10 → ∀ b, b < 10 → a ≠ b → (TX3 a).2.1 ≠ (TX3 b).2.1 := by decide +kernel
theorem tyX3_ok : ∀ k, k < 10 → parseFieldDescriptor (TX3 k).2.2.1 = some (tyX3 k) := by decide +kernel
abbrev cX3_init : ByteArray := prog_5_method_1_code
def yX3_init : MethodName := ⟨RX3, "<init>", "(I)V"⟩
abbrev cX3_begin : ByteArray := prog_5_method_2_code
def yX3_begin : MethodName := ⟨RX3, "begin", "(IIII)V"⟩
abbrev cX3_copyFrom : ByteArray := prog_5_method_3_code
def yX3_copyFrom : MethodName := ⟨RX3, "copyFrom", "(LSomebodysLift$Lift;)V"⟩
abbrev cX3_gain : ByteArray := prog_5_method_4_code
def yX3_gain : MethodName := ⟨RX3, "gain", "(LSomebodysLift$Air;II)I"⟩
abbrev cX3_climb : ByteArray := prog_5_method_5_code
def yX3_climb : MethodName := ⟨RX3, "climb", "(LSomebodysLift$Air;II)I"⟩
def RX4 : String := "SomebodysLift$Rows"
def TX4 : u_T := fun k => match k with
  | 0 => ("SomebodysLift$Rows", "lifts", "[I", true)
  | 1 => ("SomebodysLift$Rows", "numbers", "[I", true)
  | _ => ("SomebodysLift$Rows", "count", "I", false)
def tyX4 : Nat → FieldType := fun k => match k with
  | 0 => .array .int
  | 1 => .array .int
  | _ => .int
abbrev wsX40 : List Cond := u_ws RX4 TX4 3
theorem nmX4 : ∀ a, a < 3 → ∀ b, b < 3 → a ≠ b → (TX4 a).2.1 ≠ (TX4 b).2.1 := by decide +kernel
theorem tyX4_ok : ∀ k, k < 3 → parseFieldDescriptor (TX4 k).2.2.1 = some (tyX4 k) := by decide +kernel
abbrev cX4_init : ByteArray := prog_6_method_1_code
def yX4_init : MethodName := ⟨RX4, "<init>", "(I)V"⟩
abbrev cX4_add : ByteArray := prog_6_method_2_code
def yX4_add : MethodName := ⟨RX4, "add", "(II)I"⟩
abbrev cX4_copyFrom : ByteArray := prog_6_method_3_code
def yX4_copyFrom : MethodName := ⟨RX4, "copyFrom", "(LSomebodysLift$Rows;)V"⟩
def RX5 : String := "SomebodysLift$State"
def TX5 : u_T := fun k => match k with
  | 0 => ("SomebodysLift$State", "lifts", "[LSomebodysLift$Lift;", true)
  | 1 => ("SomebodysLift$State", "glider", "LSomebodysLift$Glider;", true)
  | 2 => ("SomebodysLift$State", "flight", "LSomebodysLift$Rows;", true)
  | 3 => ("SomebodysLift$State", "seen", "LSomebodysLift$Rows;", true)
  | 4 => ("SomebodysLift$State", "book", "LSomebodysLift$Rows;", true)
  | 5 => ("SomebodysLift$State", "liftCount", "I", false)
  | 6 => ("SomebodysLift$State", "in", "I", false)
  | 7 => ("SomebodysLift$State", "home", "I", false)
  | _ => ("SomebodysLift$State", "air", "LSomebodysLift$Air;", false)
def tyX5 : Nat → FieldType := fun k => match k with
  | 0 => .array (.object "SomebodysLift$Lift")
  | 1 => .object "SomebodysLift$Glider"
  | 2 => .object "SomebodysLift$Rows"
  | 3 => .object "SomebodysLift$Rows"
  | 4 => .object "SomebodysLift$Rows"
  | 5 => .int
  | 6 => .int
  | 7 => .int
  | _ => .object "SomebodysLift$Air"
abbrev wsX50 : List Cond := u_ws RX5 TX5 9
theorem nmX5 : ∀ a, a < 9 → ∀ b, b < 9 → a ≠ b → (TX5 a).2.1 ≠ (TX5 b).2.1 := by decide +kernel
theorem tyX5_ok : ∀ k, k < 9 → parseFieldDescriptor (TX5 k).2.2.1 = some (tyX5 k) := by decide +kernel
abbrev cX5_init : ByteArray := prog_7_method_1_code
def yX5_init : MethodName := ⟨RX5, "<init>", "(LSomebodysLift$Air;)V"⟩
abbrev cX5_copyFrom : ByteArray := prog_7_method_2_code
def yX5_copyFrom : MethodName := ⟨RX5, "copyFrom", "(LSomebodysLift$State;)V"⟩
def RX6 : String := "SomebodysLift$Tape"
def TX6 : u_T := fun k => match k with
  | 0 => ("SomebodysLift$Tape", "items", "[J", true)
  | 1 => ("SomebodysLift$Tape", "sort", "I", false)
  | _ => ("SomebodysLift$Tape", "size", "I", false)
def tyX6 : Nat → FieldType := fun k => match k with
  | 0 => .array .long
  | 1 => .int
  | _ => .int
abbrev wsX60 : List Cond := u_ws RX6 TX6 3
theorem nmX6 : ∀ a, a < 3 → ∀ b, b < 3 → a ≠ b → (TX6 a).2.1 ≠ (TX6 b).2.1 := by decide +kernel
theorem tyX6_ok : ∀ k, k < 3 → parseFieldDescriptor (TX6 k).2.2.1 = some (tyX6 k) := by decide +kernel
abbrev cX6_init : ByteArray := prog_8_method_1_code
def yX6_init : MethodName := ⟨RX6, "<init>", "()V"⟩
abbrev cX6_holds : ByteArray := prog_8_method_2_code
def yX6_holds : MethodName := ⟨RX6, "holds", "()Z"⟩
abbrev cX6_begin : ByteArray := prog_8_method_3_code
def yX6_begin : MethodName := ⟨RX6, "begin", "(II)V"⟩
abbrev cX6_cut : ByteArray := prog_8_method_4_code
def yX6_cut : MethodName := ⟨RX6, "cut", "(J)J"⟩
def RX7 : String := "SomebodysLift"
def TX7 : u_T := fun k => match k with
  | 0 => ("SomebodysLift", "calm", "LSomebodysLift$Air;", true)
  | 1 => ("SomebodysLift", "now", "LSomebodysLift$State;", true)
  | 2 => ("SomebodysLift", "kept", "LSomebodysLift$State;", true)
  | 3 => ("SomebodysLift", "trial", "LSomebodysLift$Glider;", true)
  | 4 => ("SomebodysLift", "text", "LSomebodysLift$AirReader;", true)
  | 5 => ("SomebodysLift", "airs", "[LSomebodysLift$Air;", true)
  | 6 => ("SomebodysLift", "bodies", "[I", true)
  | 7 => ("SomebodysLift", "tapes", "[LSomebodysLift$Tape;", true)
  | 8 => ("SomebodysLift", "airCount", "I", false)
  | 9 => ("SomebodysLift", "bodiesRun", "I", false)
  | _ => ("SomebodysLift", "imaged", "Z", false)
def tyX7 : Nat → FieldType := fun k => match k with
  | 0 => .object "SomebodysLift$Air"
  | 1 => .object "SomebodysLift$State"
  | 2 => .object "SomebodysLift$State"
  | 3 => .object "SomebodysLift$Glider"
  | 4 => .object "SomebodysLift$AirReader"
  | 5 => .array (.object "SomebodysLift$Air")
  | 6 => .array .int
  | 7 => .array (.object "SomebodysLift$Tape")
  | 8 => .int
  | 9 => .int
  | _ => .boolean
abbrev wsX70 : List Cond := u_ws RX7 TX7 11
theorem nmX7 : ∀ a, a < 11 → ∀ b, b < 11 → a ≠ b → (TX7 a).2.1 ≠ (TX7 b).2.1 := by decide +kernel
theorem tyX7_ok : ∀ k, k < 11 → parseFieldDescriptor (TX7 k).2.2.1 = some (tyX7 k) := by decide +kernel
abbrev cX7_init : ByteArray := prog_1_method_1_code
def yX7_init : MethodName := ⟨RX7, "<init>", "()V"⟩
abbrev cX7_lift : ByteArray := prog_1_method_2_code
def yX7_lift : MethodName := ⟨RX7, "lift", "(IIII)I"⟩
abbrev cX7_of : ByteArray := prog_1_method_3_code
def yX7_of : MethodName := ⟨RX7, "of", "(II)I"⟩
abbrev cX7_pull : ByteArray := prog_1_method_4_code
def yX7_pull : MethodName := ⟨RX7, "pull", "(II)I"⟩
abbrev cX7_row : ByteArray := prog_1_method_5_code
def yX7_row : MethodName := ⟨RX7, "row", "(III)I"⟩
abbrev cX7_feed : ByteArray := prog_1_method_6_code
def yX7_feed : MethodName := ⟨RX7, "feed", "(I)I"⟩
abbrev cX7_air : ByteArray := prog_1_method_7_code
def yX7_air : MethodName := ⟨RX7, "air", "()I"⟩
abbrev cX7_home : ByteArray := prog_1_method_8_code
def yX7_home : MethodName := ⟨RX7, "home", "(I)I"⟩
abbrev cX7_height : ByteArray := prog_1_method_9_code
def yX7_height : MethodName := ⟨RX7, "height", "(I)I"⟩
abbrev cX7_told : ByteArray := prog_1_method_10_code
def yX7_told : MethodName := ⟨RX7, "told", "(I)I"⟩
abbrev cX7_enter : ByteArray := prog_1_method_11_code
def yX7_enter : MethodName := ⟨RX7, "enter", "(I)I"⟩
abbrev cX7_turn : ByteArray := prog_1_method_12_code
def yX7_turn : MethodName := ⟨RX7, "turn", "(I)I"⟩
abbrev cX7_glide : ByteArray := prog_1_method_13_code
def yX7_glide : MethodName := ⟨RX7, "glide", "(II)I"⟩
abbrev cX7_up : ByteArray := prog_1_method_14_code
def yX7_up : MethodName := ⟨RX7, "up", "(II)I"⟩
abbrev cX7_top : ByteArray := prog_1_method_15_code
def yX7_top : MethodName := ⟨RX7, "top", "(II)I"⟩
abbrev cX7_arrives : ByteArray := prog_1_method_16_code
def yX7_arrives : MethodName := ⟨RX7, "arrives", "(II)I"⟩
abbrev cX7_outed : ByteArray := prog_1_method_17_code
def yX7_outed : MethodName := ⟨RX7, "outed", "(II)I"⟩
abbrev cX7_reach : ByteArray := prog_1_method_18_code
def yX7_reach : MethodName := ⟨RX7, "reach", "(I)I"⟩
abbrev cX7_next : ByteArray := prog_1_method_19_code
def yX7_next : MethodName := ⟨RX7, "next", "(I)I"⟩
abbrev cX7_lowest : ByteArray := prog_1_method_20_code
def yX7_lowest : MethodName := ⟨RX7, "lowest", "(II)I"⟩
abbrev cX7_by : ByteArray := prog_1_method_21_code
def yX7_by : MethodName := ⟨RX7, "by", "(III)I"⟩
abbrev cX7_straight : ByteArray := prog_1_method_22_code
def yX7_straight : MethodName := ⟨RX7, "straight", "(I)I"⟩
abbrev cX7_best : ByteArray := prog_1_method_23_code
def yX7_best : MethodName := ⟨RX7, "best", "(I)I"⟩
abbrev cX7_two : ByteArray := prog_1_method_24_code
def yX7_two : MethodName := ⟨RX7, "two", "(II)I"⟩
abbrev cX7_worth : ByteArray := prog_1_method_25_code
def yX7_worth : MethodName := ⟨RX7, "worth", "(I)I"⟩
abbrev cX7_leg : ByteArray := prog_1_method_26_code
def yX7_leg : MethodName := ⟨RX7, "leg", "(II)I"⟩
abbrev cX7_flown : ByteArray := prog_1_method_27_code
def yX7_flown : MethodName := ⟨RX7, "flown", "(II)I"⟩
abbrev cX7_see : ByteArray := prog_1_method_28_code
def yX7_see : MethodName := ⟨RX7, "see", "(I)I"⟩
abbrev cX7_who : ByteArray := prog_1_method_29_code
def yX7_who : MethodName := ⟨RX7, "who", "()I"⟩
abbrev cX7_odds : ByteArray := prog_1_method_30_code
def yX7_odds : MethodName := ⟨RX7, "odds", "(III)J"⟩
abbrev cX7_mean : ByteArray := prog_1_method_31_code
def yX7_mean : MethodName := ⟨RX7, "mean", "(II)J"⟩
abbrev cX7_book : ByteArray := prog_1_method_32_code
def yX7_book : MethodName := ⟨RX7, "book", "(II)I"⟩
abbrev cX7_looked : ByteArray := prog_1_method_33_code
def yX7_looked : MethodName := ⟨RX7, "looked", "()I"⟩
abbrev cX7_judge : ByteArray := prog_1_method_34_code
def yX7_judge : MethodName := ⟨RX7, "judge", "(II)I"⟩
abbrev cX7_image : ByteArray := prog_1_method_35_code
def yX7_image : MethodName := ⟨RX7, "image", "()I"⟩
abbrev cX7_undo : ByteArray := prog_1_method_36_code
def yX7_undo : MethodName := ⟨RX7, "undo", "()I"⟩
abbrev cX7_act : ByteArray := prog_1_method_37_code
def yX7_act : MethodName := ⟨RX7, "act", "(III)I"⟩
abbrev cX7_trace : ByteArray := prog_1_method_38_code
def yX7_trace : MethodName := ⟨RX7, "trace", "(I)I"⟩
abbrev cX7_taken : ByteArray := prog_1_method_39_code
def yX7_taken : MethodName := ⟨RX7, "taken", "(II)I"⟩
abbrev cX7_count : ByteArray := prog_1_method_40_code
def yX7_count : MethodName := ⟨RX7, "count", "(I)I"⟩
abbrev cX7_tape : ByteArray := prog_1_method_41_code
def yX7_tape : MethodName := ⟨RX7, "tape", "(III)I"⟩
abbrev cX7_item : ByteArray := prog_1_method_42_code
def yX7_item : MethodName := ⟨RX7, "item", "(IIJ)I"⟩
abbrev cX7_read : ByteArray := prog_1_method_43_code
def yX7_read : MethodName := ⟨RX7, "read", "(II)J"⟩
abbrev cX7_shift : ByteArray := prog_1_method_44_code
def yX7_shift : MethodName := ⟨RX7, "shift", "(IIIII)I"⟩
abbrev cX7_isWithin : ByteArray := prog_1_method_45_code
def yX7_isWithin : MethodName := ⟨RX7, "isWithin", "(III)Z"⟩
abbrev cX7_isKind : ByteArray := prog_1_method_46_code
def yX7_isKind : MethodName := ⟨RX7, "isKind", "(I)Z"⟩
abbrev cX7_isMile : ByteArray := prog_1_method_47_code
def yX7_isMile : MethodName := ⟨RX7, "isMile", "(I)Z"⟩
abbrev cX7_isPace : ByteArray := prog_1_method_48_code
def yX7_isPace : MethodName := ⟨RX7, "isPace", "(I)Z"⟩
abbrev cX7_isTape : ByteArray := prog_1_method_49_code
def yX7_isTape : MethodName := ⟨RX7, "isTape", "(I)Z"⟩
abbrev cX7_isLift : ByteArray := prog_1_method_50_code
def yX7_isLift : MethodName := ⟨RX7, "isLift", "(I)Z"⟩
abbrev cX7_heightFor : ByteArray := prog_1_method_51_code
def yX7_heightFor : MethodName := ⟨RX7, "heightFor", "(III)I"⟩
abbrev cX7_arrivesSafely : ByteArray := prog_1_method_52_code
def yX7_arrivesSafely : MethodName := ⟨RX7, "arrivesSafely", "(II)Z"⟩
abbrev cX7_heightBehind : ByteArray := prog_1_method_53_code
def yX7_heightBehind : MethodName := ⟨RX7, "heightBehind", "(II)I"⟩
abbrev cX7_risesToLeave : ByteArray := prog_1_method_54_code
def yX7_risesToLeave : MethodName := ⟨RX7, "risesToLeave", "(LSomebodysLift$Lift;III)Z"⟩
abbrev cX7_minutesHome : ByteArray := prog_1_method_55_code
def yX7_minutesHome : MethodName := ⟨RX7, "minutesHome", "(I)I"⟩
abbrev cX7_minutesByTwo : ByteArray := prog_1_method_56_code
def yX7_minutesByTwo : MethodName := ⟨RX7, "minutesByTwo", "(LSomebodysLift$Lift;LSomebodysLift$Lift;I)I"⟩
abbrev cX7_quickest : ByteArray := prog_1_method_57_code
def yX7_quickest : MethodName := ⟨RX7, "quickest", "(I)I"⟩
abbrev cX7_minutesForWorth : ByteArray := prog_1_method_58_code
def yX7_minutesForWorth : MethodName := ⟨RX7, "minutesForWorth", "(I)I"⟩
abbrev cX7_wouldBeAsSeen : ByteArray := prog_1_method_59_code
def yX7_wouldBeAsSeen : MethodName := ⟨RX7, "wouldBeAsSeen", "(LSomebodysLift$Lift;)Z"⟩
abbrev cX7_tellRow : ByteArray := prog_1_method_60_code
def yX7_tellRow : MethodName := ⟨RX7, "tellRow", "(LSomebodysLift$Rows;IIII)I"⟩
abbrev cX7_partOfFraction : ByteArray := prog_1_method_61_code
def yX7_partOfFraction : MethodName := ⟨RX7, "partOfFraction", "(III)J"⟩
abbrev cX7_begins : ByteArray := prog_1_method_62_code
def yX7_begins : MethodName := ⟨RX7, "begins", "(I)V"⟩
abbrev cX7_turns : ByteArray := prog_1_method_63_code
def yX7_turns : MethodName := ⟨RX7, "turns", "(LSomebodysLift$Lift;II)I"⟩
abbrev cX7_climbs : ByteArray := prog_1_method_64_code
def yX7_climbs : MethodName := ⟨RX7, "climbs", "(LSomebodysLift$Lift;II)I"⟩
abbrev cX7_tells : ByteArray := prog_1_method_65_code
def yX7_tells : MethodName := ⟨RX7, "tells", "(LSomebodysLift$Lift;II)I"⟩
def RX8 : String := "SomebodysLiftModel"
def TX8 : u_T := fun k => match k with
  | 0 => ("SomebodysLiftModel", "lifts", "I", false)
  | 1 => ("SomebodysLiftModel", "minutes", "I", false)
  | 2 => ("SomebodysLiftModel", "mile", "I", false)
  | 3 => ("SomebodysLiftModel", "high", "I", false)
  | 4 => ("SomebodysLiftModel", "inside", "I", false)
  | 5 => ("SomebodysLiftModel", "homeAt", "I", false)
  | 6 => ("SomebodysLiftModel", "kind", "[I", true)
  | 7 => ("SomebodysLiftModel", "v", "[I", true)
  | 8 => ("SomebodysLiftModel", "where", "[I", true)
  | 9 => ("SomebodysLiftModel", "pulls", "[I", true)
  | 10 => ("SomebodysLiftModel", "rows", "[I", true)
  | 11 => ("SomebodysLiftModel", "airs", "I", false)
  | 12 => ("SomebodysLiftModel", "the", "I", false)
  | 13 => ("SomebodysLiftModel", "fed", "I", false)
  | 14 => ("SomebodysLiftModel", "at", "I", false)
  | 15 => ("SomebodysLiftModel", "digits", "I", false)
  | 16 => ("SomebodysLiftModel", "text", "[I", true)
  | 17 => ("SomebodysLiftModel", "clauses", "[I", true)
  | 18 => ("SomebodysLiftModel", "word", "[I", true)
  | 19 => ("SomebodysLiftModel", "number", "[I", true)
  | 20 => ("SomebodysLiftModel", "from", "[I", true)
  | 21 => ("SomebodysLiftModel", "to", "[I", true)
  | 22 => ("SomebodysLiftModel", "sign", "[I", true)
  | 23 => ("SomebodysLiftModel", "waits", "[I", true)
  | 24 => ("SomebodysLiftModel", "signs", "I", false)
  | 25 => ("SomebodysLiftModel", "waiting", "I", false)
  | 26 => ("SomebodysLiftModel", "open", "I", false)
  | 27 => ("SomebodysLiftModel", "letters", "[I", true)
  | 28 => ("SomebodysLiftModel", "pile", "[Z", true)
  | 29 => ("SomebodysLiftModel", "keptMinutes", "I", false)
  | 30 => ("SomebodysLiftModel", "keptMile", "I", false)
  | 31 => ("SomebodysLiftModel", "keptHigh", "I", false)
  | 32 => ("SomebodysLiftModel", "leftHigh", "I", false)
  | 33 => ("SomebodysLiftModel", "bestWhich", "I", false)
  | 34 => ("SomebodysLiftModel", "bestPace", "I", false)
  | 35 => ("SomebodysLiftModel", "bestMany", "I", false)
  | 36 => ("SomebodysLiftModel", "legs", "I", false)
  | 37 => ("SomebodysLiftModel", "legWhat", "[I", true)
  | 38 => ("SomebodysLiftModel", "legLong", "[I", true)
  | 39 => ("SomebodysLiftModel", "seen", "I", false)
  | 40 => ("SomebodysLiftModel", "seenMore", "[I", true)
  | 41 => ("SomebodysLiftModel", "books", "I", false)
  | 42 => ("SomebodysLiftModel", "bookWhat", "[I", true)
  | 43 => ("SomebodysLiftModel", "bookClimb", "[I", true)
  | 44 => ("SomebodysLiftModel", "hasImage", "Z", false)
  | 45 => ("SomebodysLiftModel", "imageThe", "I", false)
  | 46 => ("SomebodysLiftModel", "imageLifts", "I", false)
  | 47 => ("SomebodysLiftModel", "imageMinutes", "I", false)
  | 48 => ("SomebodysLiftModel", "imageMile", "I", false)
  | 49 => ("SomebodysLiftModel", "imageHigh", "I", false)
  | 50 => ("SomebodysLiftModel", "imageInside", "I", false)
  | 51 => ("SomebodysLiftModel", "imageHome", "I", false)
  | 52 => ("SomebodysLiftModel", "imageLegs", "I", false)
  | 53 => ("SomebodysLiftModel", "imageSeen", "I", false)
  | 54 => ("SomebodysLiftModel", "imageBooks", "I", false)
  | 55 => ("SomebodysLiftModel", "imageKind", "[I", true)
  | 56 => ("SomebodysLiftModel", "imageV", "[I", true)
  | 57 => ("SomebodysLiftModel", "imageWhere", "[I", true)
  | 58 => ("SomebodysLiftModel", "imagePulls", "[I", true)
  | 59 => ("SomebodysLiftModel", "imageRows", "[I", true)
  | 60 => ("SomebodysLiftModel", "imageWhat", "[I", true)
  | 61 => ("SomebodysLiftModel", "imageLong", "[I", true)
  | 62 => ("SomebodysLiftModel", "imageMore", "[I", true)
  | 63 => ("SomebodysLiftModel", "imageBookWhat", "[I", true)
  | 64 => ("SomebodysLiftModel", "imageClimb", "[I", true)
  | 65 => ("SomebodysLiftModel", "ran", "I", false)
  | 66 => ("SomebodysLiftModel", "bodies", "[I", true)
  | 67 => ("SomebodysLiftModel", "sort", "[I", true)
  | 68 => ("SomebodysLiftModel", "length", "[I", true)
  | 69 => ("SomebodysLiftModel", "item", "[J", true)
  | _ => ("SomebodysLiftModel", "aside", "[J", true)
def tyX8 : Nat → FieldType := fun k => match k with
  | 0 => .int
  | 1 => .int
  | 2 => .int
  | 3 => .int
  | 4 => .int
  | 5 => .int
  | 6 => .array .int
  | 7 => .array .int
  | 8 => .array .int
  | 9 => .array .int
  | 10 => .array .int
  | 11 => .int
  | 12 => .int
  | 13 => .int
  | 14 => .int
  | 15 => .int
  | 16 => .array .int
  | 17 => .array .int
  | 18 => .array .int
  | 19 => .array .int
  | 20 => .array .int
  | 21 => .array .int
  | 22 => .array .int
  | 23 => .array .int
  | 24 => .int
  | 25 => .int
  | 26 => .int
  | 27 => .array .int
  | 28 => .array .boolean
  | 29 => .int
  | 30 => .int
  | 31 => .int
  | 32 => .int
  | 33 => .int
  | 34 => .int
  | 35 => .int
  | 36 => .int
  | 37 => .array .int
  | 38 => .array .int
  | 39 => .int
  | 40 => .array .int
  | 41 => .int
  | 42 => .array .int
  | 43 => .array .int
  | 44 => .boolean
  | 45 => .int
  | 46 => .int
  | 47 => .int
  | 48 => .int
  | 49 => .int
  | 50 => .int
  | 51 => .int
  | 52 => .int
  | 53 => .int
  | 54 => .int
  | 55 => .array .int
  | 56 => .array .int
  | 57 => .array .int
  | 58 => .array .int
  | 59 => .array .int
  | 60 => .array .int
  | 61 => .array .int
  | 62 => .array .int
  | 63 => .array .int
  | 64 => .array .int
  | 65 => .int
  | 66 => .array .int
  | 67 => .array .int
  | 68 => .array .int
  | 69 => .array .long
  | _ => .array .long
abbrev wsX80 : List Cond := u_ws RX8 TX8 71
theorem nmX8 : ∀ a, a < 71 → ∀ b, b < 71 → a ≠ b → (TX8 a).2.1 ≠ (TX8 b).2.1 := by decide +kernel
theorem tyX8_ok : ∀ k, k < 71 → parseFieldDescriptor (TX8 k).2.2.1 = some (tyX8 k) := by decide +kernel
abbrev cX8_init : ByteArray := prog_10_method_1_code
def yX8_init : MethodName := ⟨RX8, "<init>", "()V"⟩
abbrev cX8_in : ByteArray := prog_10_method_2_code
def yX8_in : MethodName := ⟨RX8, "in", "(III)Z"⟩
abbrev cX8_apart : ByteArray := prog_10_method_3_code
def yX8_apart : MethodName := ⟨RX8, "apart", "(II)I"⟩
abbrev cX8_isLift : ByteArray := prog_10_method_4_code
def yX8_isLift : MethodName := ⟨RX8, "isLift", "(I)Z"⟩
abbrev cX8_isMile : ByteArray := prog_10_method_5_code
def yX8_isMile : MethodName := ⟨RX8, "isMile", "(I)Z"⟩
abbrev cX8_isPace : ByteArray := prog_10_method_6_code
def yX8_isPace : MethodName := ⟨RX8, "isPace", "(I)Z"⟩
abbrev cX8_isTime : ByteArray := prog_10_method_7_code
def yX8_isTime : MethodName := ⟨RX8, "isTime", "(I)Z"⟩
abbrev cX8_lift : ByteArray := prog_10_method_8_code
def yX8_lift : MethodName := ⟨RX8, "lift", "(IIII)I"⟩
abbrev cX8_pull : ByteArray := prog_10_method_9_code
def yX8_pull : MethodName := ⟨RX8, "pull", "(II)I"⟩
abbrev cX8_row : ByteArray := prog_10_method_10_code
def yX8_row : MethodName := ⟨RX8, "row", "(III)I"⟩
abbrev cX8_home : ByteArray := prog_10_method_11_code
def yX8_home : MethodName := ⟨RX8, "home", "(I)I"⟩
abbrev cX8_height : ByteArray := prog_10_method_12_code
def yX8_height : MethodName := ⟨RX8, "height", "(I)I"⟩
abbrev cX8_feed : ByteArray := prog_10_method_13_code
def yX8_feed : MethodName := ⟨RX8, "feed", "(I)I"⟩
abbrev cX8_peek : ByteArray := prog_10_method_14_code
def yX8_peek : MethodName := ⟨RX8, "peek", "()I"⟩
abbrev cX8_takes : ByteArray := prog_10_method_15_code
def yX8_takes : MethodName := ⟨RX8, "takes", "(I)Z"⟩
abbrev cX8_takesWord : ByteArray := prog_10_method_16_code
def yX8_takesWord : MethodName := ⟨RX8, "takesWord", "(II)Z"⟩
abbrev cX8_isDigit : ByteArray := prog_10_method_17_code
def yX8_isDigit : MethodName := ⟨RX8, "isDigit", "()Z"⟩
abbrev cX8_takesNumber : ByteArray := prog_10_method_18_code
def yX8_takesNumber : MethodName := ⟨RX8, "takesNumber", "()Z"⟩
abbrev cX8_emits : ByteArray := prog_10_method_19_code
def yX8_emits : MethodName := ⟨RX8, "emits", "(I)V"⟩
abbrev cX8_whole : ByteArray := prog_10_method_20_code
def yX8_whole : MethodName := ⟨RX8, "whole", "()V"⟩
abbrev cX8_settle : ByteArray := prog_10_method_21_code
def yX8_settle : MethodName := ⟨RX8, "settle", "(I)V"⟩
abbrev cX8_place : ByteArray := prog_10_method_22_code
def yX8_place : MethodName := ⟨RX8, "place", "(I)I"⟩
abbrev cX8_takesTest : ByteArray := prog_10_method_23_code
def yX8_takesTest : MethodName := ⟨RX8, "takesTest", "()Z"⟩
abbrev cX8_takesE : ByteArray := prog_10_method_24_code
def yX8_takesE : MethodName := ⟨RX8, "takesE", "(I)Z"⟩
abbrev cX8_takesHead : ByteArray := prog_10_method_25_code
def yX8_takesHead : MethodName := ⟨RX8, "takesHead", "(I)Z"⟩
abbrev cX8_takesClause : ByteArray := prog_10_method_26_code
def yX8_takesClause : MethodName := ⟨RX8, "takesClause", "(I)Z"⟩
abbrev cX8_goesText : ByteArray := prog_10_method_27_code
def yX8_goesText : MethodName := ⟨RX8, "goesText", "(I)Z"⟩
abbrev cX8_air : ByteArray := prog_10_method_28_code
def yX8_air : MethodName := ⟨RX8, "air", "()I"⟩
abbrev cX8_begin : ByteArray := prog_10_method_29_code
def yX8_begin : MethodName := ⟨RX8, "begin", "()I"⟩
abbrev cX8_behind : ByteArray := prog_10_method_30_code
def yX8_behind : MethodName := ⟨RX8, "behind", "()I"⟩
abbrev cX8_lastOf : ByteArray := prog_10_method_31_code
def yX8_lastOf : MethodName := ⟨RX8, "lastOf", "(II)I"⟩
abbrev cX8_base : ByteArray := prog_10_method_32_code
def yX8_base : MethodName := ⟨RX8, "base", "()I"⟩
abbrev cX8_safe : ByteArray := prog_10_method_33_code
def yX8_safe : MethodName := ⟨RX8, "safe", "()I"⟩
abbrev cX8_factOf : ByteArray := prog_10_method_34_code
def yX8_factOf : MethodName := ⟨RX8, "factOf", "(II)I"⟩
abbrev cX8_holds : ByteArray := prog_10_method_35_code
def yX8_holds : MethodName := ⟨RX8, "holds", "(II)Z"⟩
abbrev cX8_gain : ByteArray := prog_10_method_36_code
def yX8_gain : MethodName := ⟨RX8, "gain", "(I)I"⟩
abbrev cX8_climb : ByteArray := prog_10_method_37_code
def yX8_climb : MethodName := ⟨RX8, "climb", "(I)I"⟩
abbrev cX8_of : ByteArray := prog_10_method_38_code
def yX8_of : MethodName := ⟨RX8, "of", "(II)I"⟩
abbrev cX8_told : ByteArray := prog_10_method_39_code
def yX8_told : MethodName := ⟨RX8, "told", "(I)I"⟩
abbrev cX8_goMinute : ByteArray := prog_10_method_40_code
def yX8_goMinute : MethodName := ⟨RX8, "goMinute", "(I)V"⟩
abbrev cX8_falls : ByteArray := prog_10_method_41_code
def yX8_falls : MethodName := ⟨RX8, "falls", "(III)I"⟩
abbrev cX8_goGlide : ByteArray := prog_10_method_42_code
def yX8_goGlide : MethodName := ⟨RX8, "goGlide", "(II)Z"⟩
abbrev cX8_enter : ByteArray := prog_10_method_43_code
def yX8_enter : MethodName := ⟨RX8, "enter", "(I)I"⟩
abbrev cX8_turn : ByteArray := prog_10_method_44_code
def yX8_turn : MethodName := ⟨RX8, "turn", "(I)I"⟩
abbrev cX8_glide : ByteArray := prog_10_method_45_code
def yX8_glide : MethodName := ⟨RX8, "glide", "(II)I"⟩
abbrev cX8_save : ByteArray := prog_10_method_46_code
def yX8_save : MethodName := ⟨RX8, "save", "()V"⟩
abbrev cX8_putBack : ByteArray := prog_10_method_47_code
def yX8_putBack : MethodName := ⟨RX8, "putBack", "()V"⟩
abbrev cX8_upOf : ByteArray := prog_10_method_48_code
def yX8_upOf : MethodName := ⟨RX8, "upOf", "(II)I"⟩
abbrev cX8_up : ByteArray := prog_10_method_49_code
def yX8_up : MethodName := ⟨RX8, "up", "(II)I"⟩
abbrev cX8_top : ByteArray := prog_10_method_50_code
def yX8_top : MethodName := ⟨RX8, "top", "(II)I"⟩
abbrev cX8_arrives : ByteArray := prog_10_method_51_code
def yX8_arrives : MethodName := ⟨RX8, "arrives", "(II)I"⟩
abbrev cX8_outed : ByteArray := prog_10_method_52_code
def yX8_outed : MethodName := ⟨RX8, "outed", "(II)I"⟩
abbrev cX8_canReach : ByteArray := prog_10_method_53_code
def yX8_canReach : MethodName := ⟨RX8, "canReach", "(II)Z"⟩
abbrev cX8_reach : ByteArray := prog_10_method_54_code
def yX8_reach : MethodName := ⟨RX8, "reach", "(I)I"⟩
abbrev cX8_next : ByteArray := prog_10_method_55_code
def yX8_next : MethodName := ⟨RX8, "next", "(I)I"⟩
abbrev cX8_lowest : ByteArray := prog_10_method_56_code
def yX8_lowest : MethodName := ⟨RX8, "lowest", "(II)I"⟩
abbrev cX8_rises : ByteArray := prog_10_method_57_code
def yX8_rises : MethodName := ⟨RX8, "rises", "(IIII)Z"⟩
abbrev cX8_byOf : ByteArray := prog_10_method_58_code
def yX8_byOf : MethodName := ⟨RX8, "byOf", "(III)I"⟩
abbrev cX8_by : ByteArray := prog_10_method_59_code
def yX8_by : MethodName := ⟨RX8, "by", "(III)I"⟩
abbrev cX8_straightOf : ByteArray := prog_10_method_60_code
def yX8_straightOf : MethodName := ⟨RX8, "straightOf", "(I)I"⟩
abbrev cX8_straight : ByteArray := prog_10_method_61_code
def yX8_straight : MethodName := ⟨RX8, "straight", "(I)I"⟩
abbrev cX8_takesBest : ByteArray := prog_10_method_62_code
def yX8_takesBest : MethodName := ⟨RX8, "takesBest", "(III)V"⟩
abbrev cX8_layBest : ByteArray := prog_10_method_63_code
def yX8_layBest : MethodName := ⟨RX8, "layBest", "(I)V"⟩
abbrev cX8_best : ByteArray := prog_10_method_64_code
def yX8_best : MethodName := ⟨RX8, "best", "(I)I"⟩
abbrev cX8_two : ByteArray := prog_10_method_65_code
def yX8_two : MethodName := ⟨RX8, "two", "(II)I"⟩
abbrev cX8_worth : ByteArray := prog_10_method_66_code
def yX8_worth : MethodName := ⟨RX8, "worth", "(I)I"⟩
abbrev cX8_leg : ByteArray := prog_10_method_67_code
def yX8_leg : MethodName := ⟨RX8, "leg", "(II)I"⟩
abbrev cX8_flown : ByteArray := prog_10_method_68_code
def yX8_flown : MethodName := ⟨RX8, "flown", "(II)I"⟩
abbrev cX8_see : ByteArray := prog_10_method_69_code
def yX8_see : MethodName := ⟨RX8, "see", "(I)I"⟩
abbrev cX8_isSeen : ByteArray := prog_10_method_70_code
def yX8_isSeen : MethodName := ⟨RX8, "isSeen", "(I)Z"⟩
abbrev cX8_who : ByteArray := prog_10_method_71_code
def yX8_who : MethodName := ⟨RX8, "who", "()I"⟩
abbrev cX8_divisor : ByteArray := prog_10_method_72_code
def yX8_divisor : MethodName := ⟨RX8, "divisor", "(II)I"⟩
abbrev cX8_lowestTerms : ByteArray := prog_10_method_73_code
def yX8_lowestTerms : MethodName := ⟨RX8, "lowestTerms", "(III)J"⟩
abbrev cX8_odds : ByteArray := prog_10_method_74_code
def yX8_odds : MethodName := ⟨RX8, "odds", "(III)J"⟩
abbrev cX8_mean : ByteArray := prog_10_method_75_code
def yX8_mean : MethodName := ⟨RX8, "mean", "(II)J"⟩
abbrev cX8_book : ByteArray := prog_10_method_76_code
def yX8_book : MethodName := ⟨RX8, "book", "(II)I"⟩
abbrev cX8_looked : ByteArray := prog_10_method_77_code
def yX8_looked : MethodName := ⟨RX8, "looked", "()I"⟩
abbrev cX8_judge : ByteArray := prog_10_method_78_code
def yX8_judge : MethodName := ⟨RX8, "judge", "(II)I"⟩
abbrev cX8_image : ByteArray := prog_10_method_79_code
def yX8_image : MethodName := ⟨RX8, "image", "()I"⟩
abbrev cX8_undo : ByteArray := prog_10_method_80_code
def yX8_undo : MethodName := ⟨RX8, "undo", "()I"⟩
abbrev cX8_body : ByteArray := prog_10_method_81_code
def yX8_body : MethodName := ⟨RX8, "body", "(I)V"⟩
abbrev cX8_liftTurns : ByteArray := prog_10_method_82_code
def yX8_liftTurns : MethodName := ⟨RX8, "liftTurns", "(II)I"⟩
abbrev cX8_turnsAct : ByteArray := prog_10_method_83_code
def yX8_turnsAct : MethodName := ⟨RX8, "turnsAct", "(II)I"⟩
abbrev cX8_liftClimbs : ByteArray := prog_10_method_84_code
def yX8_liftClimbs : MethodName := ⟨RX8, "liftClimbs", "(II)I"⟩
abbrev cX8_strongClimbs : ByteArray := prog_10_method_85_code
def yX8_strongClimbs : MethodName := ⟨RX8, "strongClimbs", "(II)I"⟩
abbrev cX8_climbsAct : ByteArray := prog_10_method_86_code
def yX8_climbsAct : MethodName := ⟨RX8, "climbsAct", "(II)I"⟩
abbrev cX8_liftTells : ByteArray := prog_10_method_87_code
def yX8_liftTells : MethodName := ⟨RX8, "liftTells", "(II)I"⟩
abbrev cX8_tellsAct : ByteArray := prog_10_method_88_code
def yX8_tellsAct : MethodName := ⟨RX8, "tellsAct", "(II)I"⟩
abbrev cX8_act : ByteArray := prog_10_method_89_code
def yX8_act : MethodName := ⟨RX8, "act", "(III)I"⟩
abbrev cX8_trace : ByteArray := prog_10_method_90_code
def yX8_trace : MethodName := ⟨RX8, "trace", "(I)I"⟩
abbrev cX8_taken : ByteArray := prog_10_method_91_code
def yX8_taken : MethodName := ⟨RX8, "taken", "(II)I"⟩
abbrev cX8_count : ByteArray := prog_10_method_92_code
def yX8_count : MethodName := ⟨RX8, "count", "(I)I"⟩
abbrev cX8_isTape : ByteArray := prog_10_method_93_code
def yX8_isTape : MethodName := ⟨RX8, "isTape", "(I)Z"⟩
abbrev cX8_tape : ByteArray := prog_10_method_94_code
def yX8_tape : MethodName := ⟨RX8, "tape", "(III)I"⟩
abbrev cX8_narrow : ByteArray := prog_10_method_95_code
def yX8_narrow : MethodName := ⟨RX8, "narrow", "(IJ)J"⟩
abbrev cX8_item : ByteArray := prog_10_method_96_code
def yX8_item : MethodName := ⟨RX8, "item", "(IIJ)I"⟩
abbrev cX8_read : ByteArray := prog_10_method_97_code
def yX8_read : MethodName := ⟨RX8, "read", "(II)J"⟩
abbrev cX8_shift : ByteArray := prog_10_method_98_code
def yX8_shift : MethodName := ⟨RX8, "shift", "(IIIII)I"⟩
def RJx145de : String := "java/io/Serializable"
def TJx145de : u_T := fun k => match k with
  | _ => ("", "", "", false)
def tyJx145de : Nat → FieldType := fun k => match k with
  | _ => .int
theorem nmJx145de : ∀ a, a < 0 → ∀ b, b < 0 → a ≠ b → (TJx145de a).2.1 ≠ (TJx145de b).2.1 := by decide +kernel
theorem tyJx145de_ok : ∀ k, k < 0 → parseFieldDescriptor (TJx145de k).2.2.1 = some (tyJx145de k) := by decide +kernel
def RJx9f9b0 : String := "java/lang/CharSequence"
def TJx9f9b0 : u_T := fun k => match k with
  | _ => ("", "", "", false)
def tyJx9f9b0 : Nat → FieldType := fun k => match k with
  | _ => .int
theorem nmJx9f9b0 : ∀ a, a < 0 → ∀ b, b < 0 → a ≠ b → (TJx9f9b0 a).2.1 ≠ (TJx9f9b0 b).2.1 := by decide +kernel
theorem tyJx9f9b0_ok : ∀ k, k < 0 → parseFieldDescriptor (TJx9f9b0 k).2.2.1 = some (tyJx9f9b0 k) := by decide +kernel
def RJ11 : String := "java/lang/Character"
def TJ11 : u_T := fun k => match k with
  | _ => ("", "", "", false)
def tyJ11 : Nat → FieldType := fun k => match k with
  | _ => .int
abbrev wsJ110 : List Cond := u_ws RJ11 TJ11 0
theorem nmJ11 : ∀ a, a < 0 → ∀ b, b < 0 → a ≠ b → (TJ11 a).2.1 ≠ (TJ11 b).2.1 := by decide +kernel
theorem tyJ11_ok : ∀ k, k < 0 → parseFieldDescriptor (TJ11 k).2.2.1 = some (tyJ11 k) := by decide +kernel
abbrev cJ11_isValidCodePoint_9a6ad : ByteArray := prog_11_method_11_code
def yJ11_isValidCodePoint_9a6ad : MethodName := ⟨RJ11, "isValidCodePoint", "(I)Z"⟩
abbrev cJ11_highSurrogate_5068e : ByteArray := prog_11_method_28_code
def yJ11_highSurrogate_5068e : MethodName := ⟨RJ11, "highSurrogate", "(I)C"⟩
abbrev cJ11_lowSurrogate_5068e : ByteArray := prog_11_method_29_code
def yJ11_lowSurrogate_5068e : MethodName := ⟨RJ11, "lowSurrogate", "(I)C"⟩
def RJxb160c : String := "java/lang/Comparable"
def TJxb160c : u_T := fun k => match k with
  | _ => ("", "", "", false)
def tyJxb160c : Nat → FieldType := fun k => match k with
  | _ => .int
theorem nmJxb160c : ∀ a, a < 0 → ∀ b, b < 0 → a ≠ b → (TJxb160c a).2.1 ≠ (TJxb160c b).2.1 := by decide +kernel
theorem tyJxb160c_ok : ∀ k, k < 0 → parseFieldDescriptor (TJxb160c k).2.2.1 = some (tyJxb160c k) := by decide +kernel
def RJ9 : String := "java/lang/Math"
def TJ9 : u_T := fun k => match k with
  | _ => ("", "", "", false)
def tyJ9 : Nat → FieldType := fun k => match k with
  | _ => .int
abbrev wsJ90 : List Cond := u_ws RJ9 TJ9 0
theorem nmJ9 : ∀ a, a < 0 → ∀ b, b < 0 → a ≠ b → (TJ9 a).2.1 ≠ (TJ9 b).2.1 := by decide +kernel
theorem tyJ9_ok : ∀ k, k < 0 → parseFieldDescriptor (TJ9 k).2.2.1 = some (tyJ9 k) := by decide +kernel
abbrev cJ9_abs_0f7a4 : ByteArray := prog_12_method_59_code
def yJ9_abs_0f7a4 : MethodName := ⟨RJ9, "abs", "(I)I"⟩
abbrev cJ9_max_7cf53 : ByteArray := prog_12_method_65_code
def yJ9_max_7cf53 : MethodName := ⟨RJ9, "max", "(II)I"⟩
abbrev cJ9_min_7cf53 : ByteArray := prog_12_method_69_code
def yJ9_min_7cf53 : MethodName := ⟨RJ9, "min", "(II)I"⟩
def RJ0 : String := "java/lang/String"
def TJ0 : u_T := fun k => match k with
  | _ => ("", "", "", false)
def tyJ0 : Nat → FieldType := fun k => match k with
  | _ => .int
abbrev wsJ00 : List Cond := u_ws RJ0 TJ0 0
theorem nmJ0 : ∀ a, a < 0 → ∀ b, b < 0 → a ≠ b → (TJ0 a).2.1 ≠ (TJ0 b).2.1 := by decide +kernel
theorem tyJ0_ok : ∀ k, k < 0 → parseFieldDescriptor (TJ0 k).2.2.1 = some (tyJ0 k) := by decide +kernel
abbrev cJ0_length_8abf5 : ByteArray := prog_13_method_54_code
def yJ0_length_8abf5 : MethodName := ⟨RJ0, "length", "()I"⟩
abbrev cJ0_charAt_5068e : ByteArray := prog_13_method_56_code
def yJ0_charAt_5068e : MethodName := ⟨RJ0, "charAt", "(I)C"⟩
abbrev cJ0_indexOf_0f7a4 : ByteArray := prog_13_method_79_code
def yJ0_indexOf_0f7a4 : MethodName := ⟨RJ0, "indexOf", "(I)I"⟩
abbrev cJ0_indexOf_7cf53 : ByteArray := prog_13_method_80_code
def yJ0_indexOf_7cf53 : MethodName := ⟨RJ0, "indexOf", "(II)I"⟩
abbrev cJ0_coder_7d493 : ByteArray := prog_13_method_152_code
def yJ0_coder_7d493 : MethodName := ⟨RJ0, "coder", "()B"⟩
abbrev cJ0_isLatin1_aae02 : ByteArray := prog_13_method_154_code
def yJ0_isLatin1_aae02 : MethodName := ⟨RJ0, "isLatin1", "()Z"⟩
abbrev cJ0_checkIndex_df160 : ByteArray := prog_13_method_155_code
def yJ0_checkIndex_df160 : MethodName := ⟨RJ0, "checkIndex", "(II)V"⟩
abbrev cJ0_checkBoundsBeginEnd_23922 : ByteArray := prog_13_method_158_code
def yJ0_checkBoundsBeginEnd_23922 : MethodName := ⟨RJ0, "checkBoundsBeginEnd", "(III)V"⟩
def RJ1 : String := "java/lang/StringLatin1"
def TJ1 : u_T := fun k => match k with
  | _ => ("", "", "", false)
def tyJ1 : Nat → FieldType := fun k => match k with
  | _ => .int
abbrev wsJ10 : List Cond := u_ws RJ1 TJ1 0
theorem nmJ1 : ∀ a, a < 0 → ∀ b, b < 0 → a ≠ b → (TJ1 a).2.1 ≠ (TJ1 b).2.1 := by decide +kernel
theorem tyJ1_ok : ∀ k, k < 0 → parseFieldDescriptor (TJ1 k).2.2.1 = some (tyJ1 k) := by decide +kernel
abbrev cJ1_charAt_3b067 : ByteArray := prog_14_method_2_code
def yJ1_charAt_3b067 : MethodName := ⟨RJ1, "charAt", "([BI)C"⟩
abbrev cJ1_canEncode_9a6ad : ByteArray := prog_14_method_4_code
def yJ1_canEncode_9a6ad : MethodName := ⟨RJ1, "canEncode", "(I)Z"⟩
abbrev cJ1_indexOf_4cfef : ByteArray := prog_14_method_22_code
def yJ1_indexOf_4cfef : MethodName := ⟨RJ1, "indexOf", "([BIII)I"⟩
abbrev cJ1_indexOfChar_4cfef : ByteArray := prog_14_method_23_code
def yJ1_indexOfChar_4cfef : MethodName := ⟨RJ1, "indexOfChar", "([BIII)I"⟩
def RJ2 : String := "java/lang/StringUTF16"
def TJ2 : u_T := fun k => match k with
  | _ => ("", "", "", false)
def tyJ2 : Nat → FieldType := fun k => match k with
  | _ => .int
abbrev wsJ20 : List Cond := u_ws RJ2 TJ2 0
theorem nmJ2 : ∀ a, a < 0 → ∀ b, b < 0 → a ≠ b → (TJ2 a).2.1 ≠ (TJ2 b).2.1 := by decide +kernel
theorem tyJ2_ok : ∀ k, k < 0 → parseFieldDescriptor (TJ2 k).2.2.1 = some (tyJ2 k) := by decide +kernel
abbrev cJ2_getChar_3b067 : ByteArray := prog_15_method_5_code
def yJ2_getChar_3b067 : MethodName := ⟨RJ2, "getChar", "([BI)C"⟩
abbrev cJ2_length_9d52b : ByteArray := prog_15_method_6_code
def yJ2_length_9d52b : MethodName := ⟨RJ2, "length", "([B)I"⟩
abbrev cJ2_indexOf_4cfef : ByteArray := prog_15_method_40_code
def yJ2_indexOf_4cfef : MethodName := ⟨RJ2, "indexOf", "([BIII)I"⟩
abbrev cJ2_indexOfChar_4cfef : ByteArray := prog_15_method_47_code
def yJ2_indexOfChar_4cfef : MethodName := ⟨RJ2, "indexOfChar", "([BIII)I"⟩
abbrev cJ2_indexOfCharUnsafe_4cfef : ByteArray := prog_15_method_48_code
def yJ2_indexOfCharUnsafe_4cfef : MethodName := ⟨RJ2, "indexOfCharUnsafe", "([BIII)I"⟩
abbrev cJ2_indexOfSupplementary_4cfef : ByteArray := prog_15_method_49_code
def yJ2_indexOfSupplementary_4cfef : MethodName := ⟨RJ2, "indexOfSupplementary", "([BIII)I"⟩
abbrev cJ2_charAt_3b067 : ByteArray := prog_15_method_83_code
def yJ2_charAt_3b067 : MethodName := ⟨RJ2, "charAt", "([BI)C"⟩
abbrev cJ2_checkIndex_2214a : ByteArray := prog_15_method_91_code
def yJ2_checkIndex_2214a : MethodName := ⟨RJ2, "checkIndex", "(I[B)V"⟩
abbrev cJ2_checkBoundsBeginEnd_d044e : ByteArray := prog_15_method_93_code
def yJ2_checkBoundsBeginEnd_d044e : MethodName := ⟨RJ2, "checkBoundsBeginEnd", "(II[B)V"⟩
def RJ10 : String := "java/lang/System"
def TJ10 : u_T := fun k => match k with
  | _ => ("", "", "", false)
def tyJ10 : Nat → FieldType := fun k => match k with
  | _ => .int
abbrev wsJ100 : List Cond := u_ws RJ10 TJ10 0
theorem nmJ10 : ∀ a, a < 0 → ∀ b, b < 0 → a ≠ b → (TJ10 a).2.1 ≠ (TJ10 b).2.1 := by decide +kernel
theorem tyJ10_ok : ∀ k, k < 0 → parseFieldDescriptor (TJ10 k).2.2.1 = some (tyJ10 k) := by decide +kernel
def RJxfd54e : String := "java/lang/constant/Constable"
def TJxfd54e : u_T := fun k => match k with
  | _ => ("", "", "", false)
def tyJxfd54e : Nat → FieldType := fun k => match k with
  | _ => .int
theorem nmJxfd54e : ∀ a, a < 0 → ∀ b, b < 0 → a ≠ b → (TJxfd54e a).2.1 ≠ (TJxfd54e b).2.1 := by decide +kernel
theorem tyJxfd54e_ok : ∀ k, k < 0 → parseFieldDescriptor (TJxfd54e k).2.2.1 = some (tyJxfd54e k) := by decide +kernel
def RJx3cf43 : String := "java/lang/constant/ConstantDesc"
def TJx3cf43 : u_T := fun k => match k with
  | _ => ("", "", "", false)
def tyJx3cf43 : Nat → FieldType := fun k => match k with
  | _ => .int
theorem nmJx3cf43 : ∀ a, a < 0 → ∀ b, b < 0 → a ≠ b → (TJx3cf43 a).2.1 ≠ (TJx3cf43 b).2.1 := by decide +kernel
theorem tyJx3cf43_ok : ∀ k, k < 0 → parseFieldDescriptor (TJx3cf43 k).2.2.1 = some (tyJx3cf43 k) := by decide +kernel
def RJ7 : String := "java/util/Arrays"
def TJ7 : u_T := fun k => match k with
  | _ => ("", "", "", false)
def tyJ7 : Nat → FieldType := fun k => match k with
  | _ => .int
abbrev wsJ70 : List Cond := u_ws RJ7 TJ7 0
theorem nmJ7 : ∀ a, a < 0 → ∀ b, b < 0 → a ≠ b → (TJ7 a).2.1 ≠ (TJ7 b).2.1 := by decide +kernel
theorem tyJ7_ok : ∀ k, k < 0 → parseFieldDescriptor (TJ7 k).2.2.1 = some (tyJ7 k) := by decide +kernel
abbrev cJ7_fill_d0a16 : ByteArray := prog_17_method_101_code
def yJ7_fill_d0a16 : MethodName := ⟨RJ7, "fill", "([JJ)V"⟩
abbrev cJ7_fill_53178 : ByteArray := prog_17_method_103_code
def yJ7_fill_53178 : MethodName := ⟨RJ7, "fill", "([II)V"⟩
def RJ3 : String := "jdk/internal/util/Preconditions"
def TJ3 : u_T := fun k => match k with
  | _ => ("", "", "", false)
def tyJ3 : Nat → FieldType := fun k => match k with
  | _ => .int
abbrev wsJ30 : List Cond := u_ws RJ3 TJ3 0
theorem nmJ3 : ∀ a, a < 0 → ∀ b, b < 0 → a ≠ b → (TJ3 a).2.1 ≠ (TJ3 b).2.1 := by decide +kernel
theorem tyJ3_ok : ∀ k, k < 0 → parseFieldDescriptor (TJ3 k).2.2.1 = some (tyJ3 k) := by decide +kernel
abbrev cJ3_checkIndex_8e157 : ByteArray := prog_18_method_11_code
def yJ3_checkIndex_8e157 : MethodName := ⟨RJ3, "checkIndex", "(IILjava/util/function/BiFunction;)I"⟩
abbrev cJ3_checkFromToIndex_8c36e : ByteArray := prog_18_method_12_code
def yJ3_checkFromToIndex_8c36e : MethodName := ⟨RJ3, "checkFromToIndex", "(IIILjava/util/function/BiFunction;)I"⟩
def RL : String := "SomebodysLiftLaw"
abbrev cL_law : ByteArray := code
def yL_law : MethodName := ⟨RL, "law", "([I)Z"⟩
theorem dX0_init_0 : decode cX0_init 0 = .ok (.aload_n 0, 1) := by decide +kernel
theorem dX0_init_1 : decode cX0_init 1 = .ok (.invokespecial 3, 3) := by decide +kernel
theorem dX0_init_4 : decode cX0_init 4 = .ok (.aload_n 0, 1) := by decide +kernel
theorem dX0_init_5 : decode cX0_init 5 = .ok (.bipush 100, 2) := by decide +kernel
theorem dX0_init_7 : decode cX0_init 7 = .ok (.newarray .int, 2) := by decide +kernel
theorem dX0_init_9 : decode cX0_init 9 = .ok (.putfield 9, 3) := by decide +kernel
theorem dX0_init_12 : decode cX0_init 12 = .ok (.aload_n 0, 1) := by decide +kernel
theorem dX0_init_13 : decode cX0_init 13 = .ok (.iconst 0, 1) := by decide +kernel
theorem dX0_init_14 : decode cX0_init 14 = .ok (.putfield 15, 3) := by decide +kernel
theorem dX0_init_17 : decode cX0_init 17 = .ok (.aload_n 0, 1) := by decide +kernel
theorem dX0_init_18 : decode cX0_init 18 = .ok (.sipush 400, 3) := by decide +kernel
theorem dX0_init_21 : decode cX0_init 21 = .ok (.putfield 19, 3) := by decide +kernel
theorem dX0_init_24 : decode cX0_init 24 = .ok (.aload_n 0, 1) := by decide +kernel
theorem dX0_init_25 : decode cX0_init 25 = .ok (.bipush 80, 2) := by decide +kernel
theorem dX0_init_27 : decode cX0_init 27 = .ok (.putfield 22, 3) := by decide +kernel
theorem dX0_init_30 : decode cX0_init 30 = .ok (.return_, 1) := by decide +kernel
theorem dX0_begin_0 : decode cX0_begin 0 = .ok (.aload_n 0, 1) := by decide +kernel
theorem dX0_begin_1 : decode cX0_begin 1 = .ok (.iconst 0, 1) := by decide +kernel
theorem dX0_begin_2 : decode cX0_begin 2 = .ok (.putfield 15, 3) := by decide +kernel
theorem dX0_begin_5 : decode cX0_begin 5 = .ok (.aload_n 0, 1) := by decide +kernel
theorem dX0_begin_6 : decode cX0_begin 6 = .ok (.sipush 400, 3) := by decide +kernel
theorem dX0_begin_9 : decode cX0_begin 9 = .ok (.putfield 19, 3) := by decide +kernel
theorem dX0_begin_12 : decode cX0_begin 12 = .ok (.aload_n 0, 1) := by decide +kernel
theorem dX0_begin_13 : decode cX0_begin 13 = .ok (.bipush 80, 2) := by decide +kernel
theorem dX0_begin_15 : decode cX0_begin 15 = .ok (.putfield 22, 3) := by decide +kernel
theorem dX0_begin_18 : decode cX0_begin 18 = .ok (.return_, 1) := by decide +kernel
theorem dX0_addStep_0 : decode cX0_addStep 0 = .ok (.aload_n 0, 1) := by decide +kernel
theorem dX0_addStep_1 : decode cX0_addStep 1 = .ok (.getfield 15, 3) := by decide +kernel
theorem dX0_addStep_4 : decode cX0_addStep 4 = .ok (.aload_n 0, 1) := by decide +kernel
theorem dX0_addStep_5 : decode cX0_addStep 5 = .ok (.getfield 9, 3) := by decide +kernel
theorem dX0_addStep_8 : decode cX0_addStep 8 = .ok (.arraylength, 1) := by decide +kernel
theorem dX0_addStep_9 : decode cX0_addStep 9 = .ok (.if_icmp .ge 34, 3) := by decide +kernel
theorem dX0_addStep_12 : decode cX0_addStep 12 = .ok (.aload_n 0, 1) := by decide +kernel
theorem dX0_addStep_13 : decode cX0_addStep 13 = .ok (.getfield 9, 3) := by decide +kernel
theorem dX0_addStep_16 : decode cX0_addStep 16 = .ok (.aload_n 0, 1) := by decide +kernel
theorem dX0_addStep_17 : decode cX0_addStep 17 = .ok (.getfield 15, 3) := by decide +kernel
theorem dX0_addStep_20 : decode cX0_addStep 20 = .ok (.iload_n 1, 1) := by decide +kernel
theorem dX0_addStep_21 : decode cX0_addStep 21 = .ok (.sipush 1000, 3) := by decide +kernel
theorem dX0_addStep_24 : decode cX0_addStep 24 = .ok (.imul, 1) := by decide +kernel
theorem dX0_addStep_25 : decode cX0_addStep 25 = .ok (.iload_n 2, 1) := by decide +kernel
theorem dX0_addStep_26 : decode cX0_addStep 26 = .ok (.bipush 100, 2) := by decide +kernel
theorem dX0_addStep_28 : decode cX0_addStep 28 = .ok (.imul, 1) := by decide +kernel
theorem dX0_addStep_29 : decode cX0_addStep 29 = .ok (.iadd, 1) := by decide +kernel
theorem dX0_addStep_30 : decode cX0_addStep 30 = .ok (.iload_n 3, 1) := by decide +kernel
theorem dX0_addStep_31 : decode cX0_addStep 31 = .ok (.iadd, 1) := by decide +kernel
theorem dX0_addStep_32 : decode cX0_addStep 32 = .ok (.iastore, 1) := by decide +kernel
theorem dX0_addStep_33 : decode cX0_addStep 33 = .ok (.aload_n 0, 1) := by decide +kernel
theorem dX0_addStep_34 : decode cX0_addStep 34 = .ok (.dup, 1) := by decide +kernel
theorem dX0_addStep_35 : decode cX0_addStep 35 = .ok (.getfield 15, 3) := by decide +kernel
theorem dX0_addStep_38 : decode cX0_addStep 38 = .ok (.iconst 1, 1) := by decide +kernel
theorem dX0_addStep_39 : decode cX0_addStep 39 = .ok (.iadd, 1) := by decide +kernel
theorem dX0_addStep_40 : decode cX0_addStep 40 = .ok (.putfield 15, 3) := by decide +kernel
theorem dX0_addStep_43 : decode cX0_addStep 43 = .ok (.return_, 1) := by decide +kernel
theorem dX0_more_0 : decode cX0_more 0 = .ok (.iconst 0, 1) := by decide +kernel
theorem dX0_more_1 : decode cX0_more 1 = .ok (.istore 4, 2) := by decide +kernel
theorem dX0_more_3 : decode cX0_more 3 = .ok (.iconst 0, 1) := by decide +kernel
theorem dX0_more_4 : decode cX0_more 4 = .ok (.istore 5, 2) := by decide +kernel
theorem dX0_more_6 : decode cX0_more 6 = .ok (.iconst 0, 1) := by decide +kernel
theorem dX0_more_7 : decode cX0_more 7 = .ok (.istore 6, 2) := by decide +kernel
theorem dX0_more_9 : decode cX0_more 9 = .ok (.iload 6, 2) := by decide +kernel
theorem dX0_more_11 : decode cX0_more 11 = .ok (.aload_n 0, 1) := by decide +kernel
theorem dX0_more_12 : decode cX0_more 12 = .ok (.getfield 15, 3) := by decide +kernel
theorem dX0_more_15 : decode cX0_more 15 = .ok (.if_icmp .ge 178, 3) := by decide +kernel
theorem dX0_more_18 : decode cX0_more 18 = .ok (.aload_n 0, 1) := by decide +kernel
theorem dX0_more_19 : decode cX0_more 19 = .ok (.getfield 9, 3) := by decide +kernel
theorem dX0_more_22 : decode cX0_more 22 = .ok (.iload 6, 2) := by decide +kernel
theorem dX0_more_24 : decode cX0_more 24 = .ok (.iaload, 1) := by decide +kernel
theorem dX0_more_25 : decode cX0_more 25 = .ok (.sipush 1000, 3) := by decide +kernel
theorem dX0_more_28 : decode cX0_more 28 = .ok (.idiv, 1) := by decide +kernel
theorem dX0_more_29 : decode cX0_more 29 = .ok (.istore 7, 2) := by decide +kernel
theorem dX0_more_31 : decode cX0_more 31 = .ok (.iload 4, 2) := by decide +kernel
theorem dX0_more_33 : decode cX0_more 33 = .ok (.iconst 1, 1) := by decide +kernel
theorem dX0_more_34 : decode cX0_more 34 = .ok (.iand, 1) := by decide +kernel
theorem dX0_more_35 : decode cX0_more 35 = .ok (.istore 8, 2) := by decide +kernel
theorem dX0_more_37 : decode cX0_more 37 = .ok (.iload 7, 2) := by decide +kernel
theorem dX0_more_39 : decode cX0_more 39 = .ok (.tableswitch 123 6 10 #[33, 42, 57, 69, 96], 33) := by decide +kernel
theorem dX0_more_72 : decode cX0_more 72 = .ok (.iload 4, 2) := by decide +kernel
theorem dX0_more_74 : decode cX0_more 74 = .ok (.iconst 1, 1) := by decide +kernel
theorem dX0_more_75 : decode cX0_more 75 = .ok (.ixor, 1) := by decide +kernel
theorem dX0_more_76 : decode cX0_more 76 = .ok (.istore 4, 2) := by decide +kernel
theorem dX0_more_78 : decode cX0_more 78 = .ok (.goto 109, 3) := by decide +kernel
theorem dX0_more_81 : decode cX0_more 81 = .ok (.iload 4, 2) := by decide +kernel
theorem dX0_more_83 : decode cX0_more 83 = .ok (.iconst 1, 1) := by decide +kernel
theorem dX0_more_84 : decode cX0_more 84 = .ok (.ishr, 1) := by decide +kernel
theorem dX0_more_85 : decode cX0_more 85 = .ok (.iload 8, 2) := by decide +kernel
theorem dX0_more_87 : decode cX0_more 87 = .ok (.bipush (-2), 2) := by decide +kernel
theorem dX0_more_89 : decode cX0_more 89 = .ok (.ior, 1) := by decide +kernel
theorem dX0_more_90 : decode cX0_more 90 = .ok (.iand, 1) := by decide +kernel
theorem dX0_more_91 : decode cX0_more 91 = .ok (.istore 4, 2) := by decide +kernel
theorem dX0_more_93 : decode cX0_more 93 = .ok (.goto 94, 3) := by decide +kernel
theorem dX0_more_96 : decode cX0_more 96 = .ok (.iload 4, 2) := by decide +kernel
theorem dX0_more_98 : decode cX0_more 98 = .ok (.iconst 1, 1) := by decide +kernel
theorem dX0_more_99 : decode cX0_more 99 = .ok (.ishr, 1) := by decide +kernel
theorem dX0_more_100 : decode cX0_more 100 = .ok (.iload 8, 2) := by decide +kernel
theorem dX0_more_102 : decode cX0_more 102 = .ok (.ior, 1) := by decide +kernel
theorem dX0_more_103 : decode cX0_more 103 = .ok (.istore 4, 2) := by decide +kernel
theorem dX0_more_105 : decode cX0_more 105 = .ok (.goto 82, 3) := by decide +kernel
theorem dX0_more_108 : decode cX0_more 108 = .ok (.iload 5, 2) := by decide +kernel
theorem dX0_more_110 : decode cX0_more 110 = .ok (.iload 8, 2) := by decide +kernel
theorem dX0_more_112 : decode cX0_more 112 = .ok (.aload_n 0, 1) := by decide +kernel
theorem dX0_more_113 : decode cX0_more 113 = .ok (.getfield 9, 3) := by decide +kernel
theorem dX0_more_116 : decode cX0_more 116 = .ok (.iload 6, 2) := by decide +kernel
theorem dX0_more_118 : decode cX0_more 118 = .ok (.iaload, 1) := by decide +kernel
theorem dX0_more_119 : decode cX0_more 119 = .ok (.bipush 100, 2) := by decide +kernel
theorem dX0_more_121 : decode cX0_more 121 = .ok (.irem, 1) := by decide +kernel
theorem dX0_more_122 : decode cX0_more 122 = .ok (.imul, 1) := by decide +kernel
theorem dX0_more_123 : decode cX0_more 123 = .ok (.iadd, 1) := by decide +kernel
theorem dX0_more_124 : decode cX0_more 124 = .ok (.istore 5, 2) := by decide +kernel
theorem dX0_more_126 : decode cX0_more 126 = .ok (.iload 4, 2) := by decide +kernel
theorem dX0_more_128 : decode cX0_more 128 = .ok (.iconst 1, 1) := by decide +kernel
theorem dX0_more_129 : decode cX0_more 129 = .ok (.ishr, 1) := by decide +kernel
theorem dX0_more_130 : decode cX0_more 130 = .ok (.istore 4, 2) := by decide +kernel
theorem dX0_more_132 : decode cX0_more 132 = .ok (.goto 55, 3) := by decide +kernel
theorem dX0_more_135 : decode cX0_more 135 = .ok (.iload 5, 2) := by decide +kernel
theorem dX0_more_137 : decode cX0_more 137 = .ok (.iload 8, 2) := by decide +kernel
theorem dX0_more_139 : decode cX0_more 139 = .ok (.aload_n 0, 1) := by decide +kernel
theorem dX0_more_140 : decode cX0_more 140 = .ok (.getfield 9, 3) := by decide +kernel
theorem dX0_more_143 : decode cX0_more 143 = .ok (.iload 6, 2) := by decide +kernel
theorem dX0_more_145 : decode cX0_more 145 = .ok (.iaload, 1) := by decide +kernel
theorem dX0_more_146 : decode cX0_more 146 = .ok (.bipush 100, 2) := by decide +kernel
theorem dX0_more_148 : decode cX0_more 148 = .ok (.irem, 1) := by decide +kernel
theorem dX0_more_149 : decode cX0_more 149 = .ok (.imul, 1) := by decide +kernel
theorem dX0_more_150 : decode cX0_more 150 = .ok (.isub, 1) := by decide +kernel
theorem dX0_more_151 : decode cX0_more 151 = .ok (.istore 5, 2) := by decide +kernel
theorem dX0_more_153 : decode cX0_more 153 = .ok (.iload 4, 2) := by decide +kernel
theorem dX0_more_155 : decode cX0_more 155 = .ok (.iconst 1, 1) := by decide +kernel
theorem dX0_more_156 : decode cX0_more 156 = .ok (.ishr, 1) := by decide +kernel
theorem dX0_more_157 : decode cX0_more 157 = .ok (.istore 4, 2) := by decide +kernel
theorem dX0_more_159 : decode cX0_more 159 = .ok (.goto 28, 3) := by decide +kernel
theorem dX0_more_162 : decode cX0_more 162 = .ok (.iload 4, 2) := by decide +kernel
theorem dX0_more_164 : decode cX0_more 164 = .ok (.iconst 1, 1) := by decide +kernel
theorem dX0_more_165 : decode cX0_more 165 = .ok (.ishl, 1) := by decide +kernel
theorem dX0_more_166 : decode cX0_more 166 = .ok (.aload_n 0, 1) := by decide +kernel
theorem dX0_more_167 : decode cX0_more 167 = .ok (.getfield 9, 3) := by decide +kernel
theorem dX0_more_170 : decode cX0_more 170 = .ok (.iload 6, 2) := by decide +kernel
theorem dX0_more_172 : decode cX0_more 172 = .ok (.iaload, 1) := by decide +kernel
theorem dX0_more_173 : decode cX0_more 173 = .ok (.iload 7, 2) := by decide +kernel
theorem dX0_more_175 : decode cX0_more 175 = .ok (.aload_n 1, 1) := by decide +kernel
theorem dX0_more_176 : decode cX0_more 176 = .ok (.iload_n 2, 1) := by decide +kernel
theorem dX0_more_177 : decode cX0_more 177 = .ok (.iload_n 3, 1) := by decide +kernel
theorem dX0_more_178 : decode cX0_more 178 = .ok (.invokestatic 25, 3) := by decide +kernel
theorem dX0_more_181 : decode cX0_more 181 = .ok (.invokestatic 29, 3) := by decide +kernel
theorem dX0_more_184 : decode cX0_more 184 = .ok (.ior, 1) := by decide +kernel
theorem dX0_more_185 : decode cX0_more 185 = .ok (.istore 4, 2) := by decide +kernel
theorem dX0_more_187 : decode cX0_more 187 = .ok (.iinc 6 1, 3) := by decide +kernel
theorem dX0_more_190 : decode cX0_more 190 = .ok (.goto (-181), 3) := by decide +kernel
theorem dX0_more_193 : decode cX0_more 193 = .ok (.iload 5, 2) := by decide +kernel
theorem dX0_more_195 : decode cX0_more 195 = .ok (.ireturn, 1) := by decide +kernel
theorem dX0_valueOf_0 : decode cX0_valueOf 0 = .ok (.iload_n 0, 1) := by decide +kernel
theorem dX0_valueOf_1 : decode cX0_valueOf 1 = .ok (.tableswitch 54 0 4 #[35, 40, 45, 47, 49], 35) := by decide +kernel
theorem dX0_valueOf_36 : decode cX0_valueOf 36 = .ok (.aload_n 1, 1) := by decide +kernel
theorem dX0_valueOf_37 : decode cX0_valueOf 37 = .ok (.getfield 33, 3) := by decide +kernel
theorem dX0_valueOf_40 : decode cX0_valueOf 40 = .ok (.ireturn, 1) := by decide +kernel
theorem dX0_valueOf_41 : decode cX0_valueOf 41 = .ok (.aload_n 1, 1) := by decide +kernel
theorem dX0_valueOf_42 : decode cX0_valueOf 42 = .ok (.getfield 38, 3) := by decide +kernel
theorem dX0_valueOf_45 : decode cX0_valueOf 45 = .ok (.ireturn, 1) := by decide +kernel
theorem dX0_valueOf_46 : decode cX0_valueOf 46 = .ok (.iload_n 2, 1) := by decide +kernel
theorem dX0_valueOf_47 : decode cX0_valueOf 47 = .ok (.ireturn, 1) := by decide +kernel
theorem dX0_valueOf_48 : decode cX0_valueOf 48 = .ok (.iload_n 3, 1) := by decide +kernel
theorem dX0_valueOf_49 : decode cX0_valueOf 49 = .ok (.ireturn, 1) := by decide +kernel
theorem dX0_valueOf_50 : decode cX0_valueOf 50 = .ok (.aload_n 1, 1) := by decide +kernel
theorem dX0_valueOf_51 : decode cX0_valueOf 51 = .ok (.getfield 41, 3) := by decide +kernel
theorem dX0_valueOf_54 : decode cX0_valueOf 54 = .ok (.ireturn, 1) := by decide +kernel
theorem dX0_valueOf_55 : decode cX0_valueOf 55 = .ok (.aload_n 1, 1) := by decide +kernel
theorem dX0_valueOf_56 : decode cX0_valueOf 56 = .ok (.getfield 44, 3) := by decide +kernel
theorem dX0_valueOf_59 : decode cX0_valueOf 59 = .ok (.bipush 10, 2) := by decide +kernel
theorem dX0_valueOf_61 : decode cX0_valueOf 61 = .ok (.idiv, 1) := by decide +kernel
theorem dX0_valueOf_62 : decode cX0_valueOf 62 = .ok (.ireturn, 1) := by decide +kernel
theorem dX0_tested_0 : decode cX0_tested 0 = .ok (.iload_n 0, 1) := by decide +kernel
theorem dX0_tested_1 : decode cX0_tested 1 = .ok (.bipush 100, 2) := by decide +kernel
theorem dX0_tested_3 : decode cX0_tested 3 = .ok (.irem, 1) := by decide +kernel
theorem dX0_tested_4 : decode cX0_tested 4 = .ok (.istore_n 2, 1) := by decide +kernel
theorem dX0_tested_5 : decode cX0_tested 5 = .ok (.iload_n 0, 1) := by decide +kernel
theorem dX0_tested_6 : decode cX0_tested 6 = .ok (.bipush 100, 2) := by decide +kernel
theorem dX0_tested_8 : decode cX0_tested 8 = .ok (.idiv, 1) := by decide +kernel
theorem dX0_tested_9 : decode cX0_tested 9 = .ok (.bipush 10, 2) := by decide +kernel
theorem dX0_tested_11 : decode cX0_tested 11 = .ok (.irem, 1) := by decide +kernel
theorem dX0_tested_12 : decode cX0_tested 12 = .ok (.lookupswitch 50 #[(0, 28), (1, 39)], 28) := by decide +kernel
theorem dX0_tested_40 : decode cX0_tested 40 = .ok (.iload_n 1, 1) := by decide +kernel
theorem dX0_tested_41 : decode cX0_tested 41 = .ok (.iload_n 2, 1) := by decide +kernel
theorem dX0_tested_42 : decode cX0_tested 42 = .ok (.if_icmp .ge 7, 3) := by decide +kernel
theorem dX0_tested_45 : decode cX0_tested 45 = .ok (.iconst 1, 1) := by decide +kernel
theorem dX0_tested_46 : decode cX0_tested 46 = .ok (.goto 4, 3) := by decide +kernel
theorem dX0_tested_49 : decode cX0_tested 49 = .ok (.iconst 0, 1) := by decide +kernel
theorem dX0_tested_50 : decode cX0_tested 50 = .ok (.ireturn, 1) := by decide +kernel
theorem dX0_tested_51 : decode cX0_tested 51 = .ok (.iload_n 1, 1) := by decide +kernel
theorem dX0_tested_52 : decode cX0_tested 52 = .ok (.iload_n 2, 1) := by decide +kernel
theorem dX0_tested_53 : decode cX0_tested 53 = .ok (.if_icmp .ne 7, 3) := by decide +kernel
theorem dX0_tested_56 : decode cX0_tested 56 = .ok (.iconst 1, 1) := by decide +kernel
theorem dX0_tested_57 : decode cX0_tested 57 = .ok (.goto 4, 3) := by decide +kernel
theorem dX0_tested_60 : decode cX0_tested 60 = .ok (.iconst 0, 1) := by decide +kernel
theorem dX0_tested_61 : decode cX0_tested 61 = .ok (.ireturn, 1) := by decide +kernel
theorem dX0_tested_62 : decode cX0_tested 62 = .ok (.iload_n 1, 1) := by decide +kernel
theorem dX0_tested_63 : decode cX0_tested 63 = .ok (.iload_n 2, 1) := by decide +kernel
theorem dX0_tested_64 : decode cX0_tested 64 = .ok (.if_icmp .le 7, 3) := by decide +kernel
theorem dX0_tested_67 : decode cX0_tested 67 = .ok (.iconst 1, 1) := by decide +kernel
theorem dX0_tested_68 : decode cX0_tested 68 = .ok (.goto 4, 3) := by decide +kernel
theorem dX0_tested_71 : decode cX0_tested 71 = .ok (.iconst 0, 1) := by decide +kernel
theorem dX0_tested_72 : decode cX0_tested 72 = .ok (.ireturn, 1) := by decide +kernel
theorem dX1_init_0 : decode cX1_init 0 = .ok (.aload_n 0, 1) := by decide +kernel
theorem dX1_init_1 : decode cX1_init 1 = .ok (.invokespecial 3, 3) := by decide +kernel
theorem dX1_init_4 : decode cX1_init 4 = .ok (.aload_n 0, 1) := by decide +kernel
theorem dX1_init_5 : decode cX1_init 5 = .ok (.bipush 100, 2) := by decide +kernel
theorem dX1_init_7 : decode cX1_init 7 = .ok (.newarray .byte, 2) := by decide +kernel
theorem dX1_init_9 : decode cX1_init 9 = .ok (.putfield 9, 3) := by decide +kernel
theorem dX1_init_12 : decode cX1_init 12 = .ok (.aload_n 0, 1) := by decide +kernel
theorem dX1_init_13 : decode cX1_init 13 = .ok (.iconst 0, 1) := by decide +kernel
theorem dX1_init_14 : decode cX1_init 14 = .ok (.putfield 15, 3) := by decide +kernel
theorem dX1_init_17 : decode cX1_init 17 = .ok (.aload_n 0, 1) := by decide +kernel
theorem dX1_init_18 : decode cX1_init 18 = .ok (.iconst 0, 1) := by decide +kernel
theorem dX1_init_19 : decode cX1_init 19 = .ok (.putfield 19, 3) := by decide +kernel
theorem dX1_init_22 : decode cX1_init 22 = .ok (.aload_n 0, 1) := by decide +kernel
theorem dX1_init_23 : decode cX1_init 23 = .ok (.aload_n 1, 1) := by decide +kernel
theorem dX1_init_24 : decode cX1_init 24 = .ok (.putfield 22, 3) := by decide +kernel
theorem dX1_init_27 : decode cX1_init 27 = .ok (.return_, 1) := by decide +kernel
theorem dX1_parse_0 : decode cX1_parse 0 = .ok (.aload_n 1, 1) := by decide +kernel
theorem dX1_parse_1 : decode cX1_parse 1 = .ok (.invokevirtual 26, 3) := by decide +kernel
theorem dX1_parse_4 : decode cX1_parse 4 = .ok (.aload_n 0, 1) := by decide +kernel
theorem dX1_parse_5 : decode cX1_parse 5 = .ok (.aload_n 1, 1) := by decide +kernel
theorem dX1_parse_6 : decode cX1_parse 6 = .ok (.putfield 22, 3) := by decide +kernel
theorem dX1_parse_9 : decode cX1_parse 9 = .ok (.aload_n 0, 1) := by decide +kernel
theorem dX1_parse_10 : decode cX1_parse 10 = .ok (.iconst 0, 1) := by decide +kernel
theorem dX1_parse_11 : decode cX1_parse 11 = .ok (.putfield 19, 3) := by decide +kernel
theorem dX1_parse_14 : decode cX1_parse 14 = .ok (.aload_n 0, 1) := by decide +kernel
theorem dX1_parse_15 : decode cX1_parse 15 = .ok (.invokevirtual 31, 3) := by decide +kernel
theorem dX1_parse_18 : decode cX1_parse 18 = .ok (.ifCond .ne 5, 3) := by decide +kernel
theorem dX1_parse_21 : decode cX1_parse 21 = .ok (.iconst 0, 1) := by decide +kernel
theorem dX1_parse_22 : decode cX1_parse 22 = .ok (.ireturn, 1) := by decide +kernel
theorem dX1_parse_23 : decode cX1_parse 23 = .ok (.iconst 1, 1) := by decide +kernel
theorem dX1_parse_24 : decode cX1_parse 24 = .ok (.istore_n 2, 1) := by decide +kernel
theorem dX1_parse_25 : decode cX1_parse 25 = .ok (.iload_n 2, 1) := by decide +kernel
theorem dX1_parse_26 : decode cX1_parse 26 = .ok (.bipush 10, 2) := by decide +kernel
theorem dX1_parse_28 : decode cX1_parse 28 = .ok (.if_icmp .ge 27, 3) := by decide +kernel
theorem dX1_parse_31 : decode cX1_parse 31 = .ok (.aload_n 0, 1) := by decide +kernel
theorem dX1_parse_32 : decode cX1_parse 32 = .ok (.bipush 59, 2) := by decide +kernel
theorem dX1_parse_34 : decode cX1_parse 34 = .ok (.invokevirtual 35, 3) := by decide +kernel
theorem dX1_parse_37 : decode cX1_parse 37 = .ok (.ifCond .eq 18, 3) := by decide +kernel
theorem dX1_parse_40 : decode cX1_parse 40 = .ok (.aload_n 0, 1) := by decide +kernel
theorem dX1_parse_41 : decode cX1_parse 41 = .ok (.invokevirtual 31, 3) := by decide +kernel
theorem dX1_parse_44 : decode cX1_parse 44 = .ok (.ifCond .ne 5, 3) := by decide +kernel
theorem dX1_parse_47 : decode cX1_parse 47 = .ok (.iconst 0, 1) := by decide +kernel
theorem dX1_parse_48 : decode cX1_parse 48 = .ok (.ireturn, 1) := by decide +kernel
theorem dX1_parse_49 : decode cX1_parse 49 = .ok (.iinc 2 1, 3) := by decide +kernel
theorem dX1_parse_52 : decode cX1_parse 52 = .ok (.goto (-27), 3) := by decide +kernel
theorem dX1_parse_55 : decode cX1_parse 55 = .ok (.aload_n 0, 1) := by decide +kernel
theorem dX1_parse_56 : decode cX1_parse 56 = .ok (.getfield 19, 3) := by decide +kernel
theorem dX1_parse_59 : decode cX1_parse 59 = .ok (.aload_n 0, 1) := by decide +kernel
theorem dX1_parse_60 : decode cX1_parse 60 = .ok (.getfield 15, 3) := by decide +kernel
theorem dX1_parse_63 : decode cX1_parse 63 = .ok (.if_icmp .ne 7, 3) := by decide +kernel
theorem dX1_parse_66 : decode cX1_parse 66 = .ok (.iconst 1, 1) := by decide +kernel
theorem dX1_parse_67 : decode cX1_parse 67 = .ok (.goto 4, 3) := by decide +kernel
theorem dX1_parse_70 : decode cX1_parse 70 = .ok (.iconst 0, 1) := by decide +kernel
theorem dX1_parse_71 : decode cX1_parse 71 = .ok (.ireturn, 1) := by decide +kernel
theorem dX1_clause_0 : decode cX1_clause 0 = .ok (.aload_n 0, 1) := by decide +kernel
theorem dX1_clause_1 : decode cX1_clause 1 = .ok (.invokevirtual 39, 3) := by decide +kernel
theorem dX1_clause_4 : decode cX1_clause 4 = .ok (.istore_n 1, 1) := by decide +kernel
theorem dX1_clause_5 : decode cX1_clause 5 = .ok (.aload_n 0, 1) := by decide +kernel
theorem dX1_clause_6 : decode cX1_clause 6 = .ok (.iload_n 1, 1) := by decide +kernel
theorem dX1_clause_7 : decode cX1_clause 7 = .ok (.invokestatic 43, 3) := by decide +kernel
theorem dX1_clause_10 : decode cX1_clause 10 = .ok (.invokevirtual 47, 3) := by decide +kernel
theorem dX1_clause_13 : decode cX1_clause 13 = .ok (.ifCond .ne 5, 3) := by decide +kernel
theorem dX1_clause_16 : decode cX1_clause 16 = .ok (.iconst 0, 1) := by decide +kernel
theorem dX1_clause_17 : decode cX1_clause 17 = .ok (.ireturn, 1) := by decide +kernel
theorem dX1_clause_18 : decode cX1_clause 18 = .ok (.aload_n 0, 1) := by decide +kernel
theorem dX1_clause_19 : decode cX1_clause 19 = .ok (.invokevirtual 51, 3) := by decide +kernel
theorem dX1_clause_22 : decode cX1_clause 22 = .ok (.istore_n 2, 1) := by decide +kernel
theorem dX1_clause_23 : decode cX1_clause 23 = .ok (.iload_n 2, 1) := by decide +kernel
theorem dX1_clause_24 : decode cX1_clause 24 = .ok (.ifCond .ge 5, 3) := by decide +kernel
theorem dX1_clause_27 : decode cX1_clause 27 = .ok (.iconst 0, 1) := by decide +kernel
theorem dX1_clause_28 : decode cX1_clause 28 = .ok (.ireturn, 1) := by decide +kernel
theorem dX1_clause_29 : decode cX1_clause 29 = .ok (.iload_n 1, 1) := by decide +kernel
theorem dX1_clause_30 : decode cX1_clause 30 = .ok (.lookupswitch 58 #[(98, 26), (115, 45)], 26) := by decide +kernel
theorem dX1_clause_56 : decode cX1_clause 56 = .ok (.aload_n 0, 1) := by decide +kernel
theorem dX1_clause_57 : decode cX1_clause 57 = .ok (.getfield 22, 3) := by decide +kernel
theorem dX1_clause_60 : decode cX1_clause 60 = .ok (.bipush 10, 2) := by decide +kernel
theorem dX1_clause_62 : decode cX1_clause 62 = .ok (.iload_n 2, 1) := by decide +kernel
theorem dX1_clause_63 : decode cX1_clause 63 = .ok (.imul, 1) := by decide +kernel
theorem dX1_clause_64 : decode cX1_clause 64 = .ok (.sipush 400, 3) := by decide +kernel
theorem dX1_clause_67 : decode cX1_clause 67 = .ok (.invokestatic 55, 3) := by decide +kernel
theorem dX1_clause_70 : decode cX1_clause 70 = .ok (.putfield 61, 3) := by decide +kernel
theorem dX1_clause_73 : decode cX1_clause 73 = .ok (.iconst 1, 1) := by decide +kernel
theorem dX1_clause_74 : decode cX1_clause 74 = .ok (.ireturn, 1) := by decide +kernel
theorem dX1_clause_75 : decode cX1_clause 75 = .ok (.aload_n 0, 1) := by decide +kernel
theorem dX1_clause_76 : decode cX1_clause 76 = .ok (.getfield 22, 3) := by decide +kernel
theorem dX1_clause_79 : decode cX1_clause 79 = .ok (.bipush 10, 2) := by decide +kernel
theorem dX1_clause_81 : decode cX1_clause 81 = .ok (.iload_n 2, 1) := by decide +kernel
theorem dX1_clause_82 : decode cX1_clause 82 = .ok (.imul, 1) := by decide +kernel
theorem dX1_clause_83 : decode cX1_clause 83 = .ok (.putfield 64, 3) := by decide +kernel
theorem dX1_clause_86 : decode cX1_clause 86 = .ok (.iconst 1, 1) := by decide +kernel
theorem dX1_clause_87 : decode cX1_clause 87 = .ok (.ireturn, 1) := by decide +kernel
theorem dX1_clause_88 : decode cX1_clause 88 = .ok (.aload_n 0, 1) := by decide +kernel
theorem dX1_clause_89 : decode cX1_clause 89 = .ok (.bipush 32, 2) := by decide +kernel
theorem dX1_clause_91 : decode cX1_clause 91 = .ok (.invokevirtual 35, 3) := by decide +kernel
theorem dX1_clause_94 : decode cX1_clause 94 = .ok (.ifCond .eq 11, 3) := by decide +kernel
theorem dX1_clause_97 : decode cX1_clause 97 = .ok (.aload_n 0, 1) := by decide +kernel
theorem dX1_clause_98 : decode cX1_clause 98 = .ok (.iconst 0, 1) := by decide +kernel
theorem dX1_clause_99 : decode cX1_clause 99 = .ok (.invokevirtual 67, 3) := by decide +kernel
theorem dX1_clause_102 : decode cX1_clause 102 = .ok (.ifCond .ne 5, 3) := by decide +kernel
theorem dX1_clause_105 : decode cX1_clause 105 = .ok (.iconst 0, 1) := by decide +kernel
theorem dX1_clause_106 : decode cX1_clause 106 = .ok (.ireturn, 1) := by decide +kernel
theorem dX1_clause_107 : decode cX1_clause 107 = .ok (.aload_n 0, 1) := by decide +kernel
theorem dX1_clause_108 : decode cX1_clause 108 = .ok (.getfield 22, 3) := by decide +kernel
theorem dX1_clause_111 : decode cX1_clause 111 = .ok (.iload_n 1, 1) := by decide +kernel
theorem dX1_clause_112 : decode cX1_clause 112 = .ok (.bipush 117, 2) := by decide +kernel
theorem dX1_clause_114 : decode cX1_clause 114 = .ok (.if_icmp .ne 8, 3) := by decide +kernel
theorem dX1_clause_117 : decode cX1_clause 117 = .ok (.bipush 9, 2) := by decide +kernel
theorem dX1_clause_119 : decode cX1_clause 119 = .ok (.goto 5, 3) := by decide +kernel
theorem dX1_clause_122 : decode cX1_clause 122 = .ok (.bipush 10, 2) := by decide +kernel
theorem dX1_clause_124 : decode cX1_clause 124 = .ok (.iconst 0, 1) := by decide +kernel
theorem dX1_clause_125 : decode cX1_clause 125 = .ok (.iload_n 2, 1) := by decide +kernel
theorem dX1_clause_126 : decode cX1_clause 126 = .ok (.invokevirtual 71, 3) := by decide +kernel
theorem dX1_clause_129 : decode cX1_clause 129 = .ok (.iconst 1, 1) := by decide +kernel
theorem dX1_clause_130 : decode cX1_clause 130 = .ok (.ireturn, 1) := by decide +kernel
theorem dX1_wordWith_0 : decode cX1_wordWith 0 = .ok (.iload_n 0, 1) := by decide +kernel
theorem dX1_wordWith_1 : decode cX1_wordWith 1 = .ok (.lookupswitch 44 #[(98, 41), (100, 38), (117, 35)], 35) := by decide +kernel
theorem dX1_wordWith_36 : decode cX1_wordWith 36 = .ok (.ldc 75, 2) := by decide +kernel
theorem dX1_wordWith_38 : decode cX1_wordWith 38 = .ok (.areturn, 1) := by decide +kernel
theorem dX1_wordWith_39 : decode cX1_wordWith 39 = .ok (.ldc 77, 2) := by decide +kernel
theorem dX1_wordWith_41 : decode cX1_wordWith 41 = .ok (.areturn, 1) := by decide +kernel
theorem dX1_wordWith_42 : decode cX1_wordWith 42 = .ok (.ldc 79, 2) := by decide +kernel
theorem dX1_wordWith_44 : decode cX1_wordWith 44 = .ok (.areturn, 1) := by decide +kernel
theorem dX1_wordWith_45 : decode cX1_wordWith 45 = .ok (.ldc 81, 2) := by decide +kernel
theorem dX1_wordWith_47 : decode cX1_wordWith 47 = .ok (.areturn, 1) := by decide +kernel
theorem dX1_expression_0 : decode cX1_expression 0 = .ok (.iconst 0, 1) := by decide +kernel
theorem dX1_expression_1 : decode cX1_expression 1 = .ok (.istore_n 2, 1) := by decide +kernel
theorem dX1_expression_2 : decode cX1_expression 2 = .ok (.aload_n 0, 1) := by decide +kernel
theorem dX1_expression_3 : decode cX1_expression 3 = .ok (.iload_n 1, 1) := by decide +kernel
theorem dX1_expression_4 : decode cX1_expression 4 = .ok (.invokevirtual 83, 3) := by decide +kernel
theorem dX1_expression_7 : decode cX1_expression 7 = .ok (.ifCond .ne 5, 3) := by decide +kernel
theorem dX1_expression_10 : decode cX1_expression 10 = .ok (.iconst 0, 1) := by decide +kernel
theorem dX1_expression_11 : decode cX1_expression 11 = .ok (.ireturn, 1) := by decide +kernel
theorem dX1_expression_12 : decode cX1_expression 12 = .ok (.iconst 0, 1) := by decide +kernel
theorem dX1_expression_13 : decode cX1_expression 13 = .ok (.istore_n 3, 1) := by decide +kernel
theorem dX1_expression_14 : decode cX1_expression 14 = .ok (.iload_n 3, 1) := by decide +kernel
theorem dX1_expression_15 : decode cX1_expression 15 = .ok (.bipush 100, 2) := by decide +kernel
theorem dX1_expression_17 : decode cX1_expression 17 = .ok (.if_icmp .ge 93, 3) := by decide +kernel
theorem dX1_expression_20 : decode cX1_expression 20 = .ok (.aload_n 0, 1) := by decide +kernel
theorem dX1_expression_21 : decode cX1_expression 21 = .ok (.invokevirtual 39, 3) := by decide +kernel
theorem dX1_expression_24 : decode cX1_expression 24 = .ok (.bipush 38, 2) := by decide +kernel
theorem dX1_expression_26 : decode cX1_expression 26 = .ok (.if_icmp .eq 12, 3) := by decide +kernel
theorem dX1_expression_29 : decode cX1_expression 29 = .ok (.aload_n 0, 1) := by decide +kernel
theorem dX1_expression_30 : decode cX1_expression 30 = .ok (.invokevirtual 39, 3) := by decide +kernel
theorem dX1_expression_33 : decode cX1_expression 33 = .ok (.bipush 124, 2) := by decide +kernel
theorem dX1_expression_35 : decode cX1_expression 35 = .ok (.if_icmp .ne 75, 3) := by decide +kernel
theorem dX1_expression_38 : decode cX1_expression 38 = .ok (.aload_n 0, 1) := by decide +kernel
theorem dX1_expression_39 : decode cX1_expression 39 = .ok (.bipush 38, 2) := by decide +kernel
theorem dX1_expression_41 : decode cX1_expression 41 = .ok (.invokevirtual 35, 3) := by decide +kernel
theorem dX1_expression_44 : decode cX1_expression 44 = .ok (.istore 4, 2) := by decide +kernel
theorem dX1_expression_46 : decode cX1_expression 46 = .ok (.iload 4, 2) := by decide +kernel
theorem dX1_expression_48 : decode cX1_expression 48 = .ok (.ifCond .ne 30, 3) := by decide +kernel
theorem dX1_expression_51 : decode cX1_expression 51 = .ok (.aload_n 0, 1) := by decide +kernel
theorem dX1_expression_52 : decode cX1_expression 52 = .ok (.dup, 1) := by decide +kernel
theorem dX1_expression_53 : decode cX1_expression 53 = .ok (.getfield 19, 3) := by decide +kernel
theorem dX1_expression_56 : decode cX1_expression 56 = .ok (.iconst 1, 1) := by decide +kernel
theorem dX1_expression_57 : decode cX1_expression 57 = .ok (.iadd, 1) := by decide +kernel
theorem dX1_expression_58 : decode cX1_expression 58 = .ok (.putfield 19, 3) := by decide +kernel
theorem dX1_expression_61 : decode cX1_expression 61 = .ok (.iload_n 2, 1) := by decide +kernel
theorem dX1_expression_62 : decode cX1_expression 62 = .ok (.ifCond .eq 14, 3) := by decide +kernel
theorem dX1_expression_65 : decode cX1_expression 65 = .ok (.aload_n 0, 1) := by decide +kernel
theorem dX1_expression_66 : decode cX1_expression 66 = .ok (.getfield 22, 3) := by decide +kernel
theorem dX1_expression_69 : decode cX1_expression 69 = .ok (.bipush 8, 2) := by decide +kernel
theorem dX1_expression_71 : decode cX1_expression 71 = .ok (.iconst 0, 1) := by decide +kernel
theorem dX1_expression_72 : decode cX1_expression 72 = .ok (.iconst 0, 1) := by decide +kernel
theorem dX1_expression_73 : decode cX1_expression 73 = .ok (.invokevirtual 71, 3) := by decide +kernel
theorem dX1_expression_76 : decode cX1_expression 76 = .ok (.iconst 1, 1) := by decide +kernel
theorem dX1_expression_77 : decode cX1_expression 77 = .ok (.istore_n 2, 1) := by decide +kernel
theorem dX1_expression_78 : decode cX1_expression 78 = .ok (.aload_n 0, 1) := by decide +kernel
theorem dX1_expression_79 : decode cX1_expression 79 = .ok (.iload_n 1, 1) := by decide +kernel
theorem dX1_expression_80 : decode cX1_expression 80 = .ok (.invokevirtual 83, 3) := by decide +kernel
theorem dX1_expression_83 : decode cX1_expression 83 = .ok (.ifCond .ne 5, 3) := by decide +kernel
theorem dX1_expression_86 : decode cX1_expression 86 = .ok (.iconst 0, 1) := by decide +kernel
theorem dX1_expression_87 : decode cX1_expression 87 = .ok (.ireturn, 1) := by decide +kernel
theorem dX1_expression_88 : decode cX1_expression 88 = .ok (.iload 4, 2) := by decide +kernel
theorem dX1_expression_90 : decode cX1_expression 90 = .ok (.ifCond .eq 14, 3) := by decide +kernel
theorem dX1_expression_93 : decode cX1_expression 93 = .ok (.aload_n 0, 1) := by decide +kernel
theorem dX1_expression_94 : decode cX1_expression 94 = .ok (.getfield 22, 3) := by decide +kernel
theorem dX1_expression_97 : decode cX1_expression 97 = .ok (.bipush 7, 2) := by decide +kernel
theorem dX1_expression_99 : decode cX1_expression 99 = .ok (.iconst 0, 1) := by decide +kernel
theorem dX1_expression_100 : decode cX1_expression 100 = .ok (.iconst 0, 1) := by decide +kernel
theorem dX1_expression_101 : decode cX1_expression 101 = .ok (.invokevirtual 71, 3) := by decide +kernel
theorem dX1_expression_104 : decode cX1_expression 104 = .ok (.iinc 3 1, 3) := by decide +kernel
theorem dX1_expression_107 : decode cX1_expression 107 = .ok (.goto (-93), 3) := by decide +kernel
theorem dX1_expression_110 : decode cX1_expression 110 = .ok (.iload_n 2, 1) := by decide +kernel
theorem dX1_expression_111 : decode cX1_expression 111 = .ok (.ifCond .eq 14, 3) := by decide +kernel
theorem dX1_expression_114 : decode cX1_expression 114 = .ok (.aload_n 0, 1) := by decide +kernel
theorem dX1_expression_115 : decode cX1_expression 115 = .ok (.getfield 22, 3) := by decide +kernel
theorem dX1_expression_118 : decode cX1_expression 118 = .ok (.bipush 8, 2) := by decide +kernel
theorem dX1_expression_120 : decode cX1_expression 120 = .ok (.iconst 0, 1) := by decide +kernel
theorem dX1_expression_121 : decode cX1_expression 121 = .ok (.iconst 0, 1) := by decide +kernel
theorem dX1_expression_122 : decode cX1_expression 122 = .ok (.invokevirtual 71, 3) := by decide +kernel
theorem dX1_expression_125 : decode cX1_expression 125 = .ok (.iconst 1, 1) := by decide +kernel
theorem dX1_expression_126 : decode cX1_expression 126 = .ok (.ireturn, 1) := by decide +kernel
theorem dX1_factor_0 : decode cX1_factor 0 = .ok (.iload_n 1, 1) := by decide +kernel
theorem dX1_factor_1 : decode cX1_factor 1 = .ok (.iconst 4, 1) := by decide +kernel
theorem dX1_factor_2 : decode cX1_factor 2 = .ok (.if_icmp .ge 37, 3) := by decide +kernel
theorem dX1_factor_5 : decode cX1_factor 5 = .ok (.aload_n 0, 1) := by decide +kernel
theorem dX1_factor_6 : decode cX1_factor 6 = .ok (.bipush 33, 2) := by decide +kernel
theorem dX1_factor_8 : decode cX1_factor 8 = .ok (.invokevirtual 35, 3) := by decide +kernel
theorem dX1_factor_11 : decode cX1_factor 11 = .ok (.ifCond .eq 28, 3) := by decide +kernel
theorem dX1_factor_14 : decode cX1_factor 14 = .ok (.aload_n 0, 1) := by decide +kernel
theorem dX1_factor_15 : decode cX1_factor 15 = .ok (.iload_n 1, 1) := by decide +kernel
theorem dX1_factor_16 : decode cX1_factor 16 = .ok (.iconst 1, 1) := by decide +kernel
theorem dX1_factor_17 : decode cX1_factor 17 = .ok (.iadd, 1) := by decide +kernel
theorem dX1_factor_18 : decode cX1_factor 18 = .ok (.invokevirtual 83, 3) := by decide +kernel
theorem dX1_factor_21 : decode cX1_factor 21 = .ok (.ifCond .ne 5, 3) := by decide +kernel
theorem dX1_factor_24 : decode cX1_factor 24 = .ok (.iconst 0, 1) := by decide +kernel
theorem dX1_factor_25 : decode cX1_factor 25 = .ok (.ireturn, 1) := by decide +kernel
theorem dX1_factor_26 : decode cX1_factor 26 = .ok (.aload_n 0, 1) := by decide +kernel
theorem dX1_factor_27 : decode cX1_factor 27 = .ok (.getfield 22, 3) := by decide +kernel
theorem dX1_factor_30 : decode cX1_factor 30 = .ok (.bipush 6, 2) := by decide +kernel
theorem dX1_factor_32 : decode cX1_factor 32 = .ok (.iconst 0, 1) := by decide +kernel
theorem dX1_factor_33 : decode cX1_factor 33 = .ok (.iconst 0, 1) := by decide +kernel
theorem dX1_factor_34 : decode cX1_factor 34 = .ok (.invokevirtual 71, 3) := by decide +kernel
theorem dX1_factor_37 : decode cX1_factor 37 = .ok (.iconst 1, 1) := by decide +kernel
theorem dX1_factor_38 : decode cX1_factor 38 = .ok (.ireturn, 1) := by decide +kernel
theorem dX1_factor_39 : decode cX1_factor 39 = .ok (.iload_n 1, 1) := by decide +kernel
theorem dX1_factor_40 : decode cX1_factor 40 = .ok (.iconst 4, 1) := by decide +kernel
theorem dX1_factor_41 : decode cX1_factor 41 = .ok (.if_icmp .ge 37, 3) := by decide +kernel
theorem dX1_factor_44 : decode cX1_factor 44 = .ok (.aload_n 0, 1) := by decide +kernel
theorem dX1_factor_45 : decode cX1_factor 45 = .ok (.bipush 40, 2) := by decide +kernel
theorem dX1_factor_47 : decode cX1_factor 47 = .ok (.invokevirtual 35, 3) := by decide +kernel
theorem dX1_factor_50 : decode cX1_factor 50 = .ok (.ifCond .eq 28, 3) := by decide +kernel
theorem dX1_factor_53 : decode cX1_factor 53 = .ok (.aload_n 0, 1) := by decide +kernel
theorem dX1_factor_54 : decode cX1_factor 54 = .ok (.iload_n 1, 1) := by decide +kernel
theorem dX1_factor_55 : decode cX1_factor 55 = .ok (.iconst 1, 1) := by decide +kernel
theorem dX1_factor_56 : decode cX1_factor 56 = .ok (.iadd, 1) := by decide +kernel
theorem dX1_factor_57 : decode cX1_factor 57 = .ok (.invokevirtual 67, 3) := by decide +kernel
theorem dX1_factor_60 : decode cX1_factor 60 = .ok (.ifCond .eq 16, 3) := by decide +kernel
theorem dX1_factor_63 : decode cX1_factor 63 = .ok (.aload_n 0, 1) := by decide +kernel
theorem dX1_factor_64 : decode cX1_factor 64 = .ok (.bipush 41, 2) := by decide +kernel
theorem dX1_factor_66 : decode cX1_factor 66 = .ok (.invokevirtual 35, 3) := by decide +kernel
theorem dX1_factor_69 : decode cX1_factor 69 = .ok (.ifCond .eq 7, 3) := by decide +kernel
theorem dX1_factor_72 : decode cX1_factor 72 = .ok (.iconst 1, 1) := by decide +kernel
theorem dX1_factor_73 : decode cX1_factor 73 = .ok (.goto 4, 3) := by decide +kernel
theorem dX1_factor_76 : decode cX1_factor 76 = .ok (.iconst 0, 1) := by decide +kernel
theorem dX1_factor_77 : decode cX1_factor 77 = .ok (.ireturn, 1) := by decide +kernel
theorem dX1_factor_78 : decode cX1_factor 78 = .ok (.aload_n 0, 1) := by decide +kernel
theorem dX1_factor_79 : decode cX1_factor 79 = .ok (.invokevirtual 86, 3) := by decide +kernel
theorem dX1_factor_82 : decode cX1_factor 82 = .ok (.ireturn, 1) := by decide +kernel
theorem dX1_test_0 : decode cX1_test 0 = .ok (.ldc 89, 2) := by decide +kernel
theorem dX1_test_2 : decode cX1_test 2 = .ok (.aload_n 0, 1) := by decide +kernel
theorem dX1_test_3 : decode cX1_test 3 = .ok (.invokevirtual 39, 3) := by decide +kernel
theorem dX1_test_6 : decode cX1_test 6 = .ok (.invokevirtual 91, 3) := by decide +kernel
theorem dX1_test_9 : decode cX1_test 9 = .ok (.istore_n 1, 1) := by decide +kernel
theorem dX1_test_10 : decode cX1_test 10 = .ok (.iload_n 1, 1) := by decide +kernel
theorem dX1_test_11 : decode cX1_test 11 = .ok (.ifCond .ge 5, 3) := by decide +kernel
theorem dX1_test_14 : decode cX1_test 14 = .ok (.iconst 0, 1) := by decide +kernel
theorem dX1_test_15 : decode cX1_test 15 = .ok (.ireturn, 1) := by decide +kernel
theorem dX1_test_16 : decode cX1_test 16 = .ok (.aload_n 0, 1) := by decide +kernel
theorem dX1_test_17 : decode cX1_test 17 = .ok (.dup, 1) := by decide +kernel
theorem dX1_test_18 : decode cX1_test 18 = .ok (.getfield 19, 3) := by decide +kernel
theorem dX1_test_21 : decode cX1_test 21 = .ok (.iconst 1, 1) := by decide +kernel
theorem dX1_test_22 : decode cX1_test 22 = .ok (.iadd, 1) := by decide +kernel
theorem dX1_test_23 : decode cX1_test 23 = .ok (.putfield 19, 3) := by decide +kernel
theorem dX1_test_26 : decode cX1_test 26 = .ok (.ldc 97, 2) := by decide +kernel
theorem dX1_test_28 : decode cX1_test 28 = .ok (.aload_n 0, 1) := by decide +kernel
theorem dX1_test_29 : decode cX1_test 29 = .ok (.invokevirtual 39, 3) := by decide +kernel
theorem dX1_test_32 : decode cX1_test 32 = .ok (.invokevirtual 91, 3) := by decide +kernel
theorem dX1_test_35 : decode cX1_test 35 = .ok (.istore_n 2, 1) := by decide +kernel
theorem dX1_test_36 : decode cX1_test 36 = .ok (.iload_n 2, 1) := by decide +kernel
theorem dX1_test_37 : decode cX1_test 37 = .ok (.ifCond .ge 5, 3) := by decide +kernel
theorem dX1_test_40 : decode cX1_test 40 = .ok (.iconst 0, 1) := by decide +kernel
theorem dX1_test_41 : decode cX1_test 41 = .ok (.ireturn, 1) := by decide +kernel
theorem dX1_test_42 : decode cX1_test 42 = .ok (.aload_n 0, 1) := by decide +kernel
theorem dX1_test_43 : decode cX1_test 43 = .ok (.dup, 1) := by decide +kernel
theorem dX1_test_44 : decode cX1_test 44 = .ok (.getfield 19, 3) := by decide +kernel
theorem dX1_test_47 : decode cX1_test 47 = .ok (.iconst 1, 1) := by decide +kernel
theorem dX1_test_48 : decode cX1_test 48 = .ok (.iadd, 1) := by decide +kernel
theorem dX1_test_49 : decode cX1_test 49 = .ok (.putfield 19, 3) := by decide +kernel
theorem dX1_test_52 : decode cX1_test 52 = .ok (.aload_n 0, 1) := by decide +kernel
theorem dX1_test_53 : decode cX1_test 53 = .ok (.invokevirtual 51, 3) := by decide +kernel
theorem dX1_test_56 : decode cX1_test 56 = .ok (.istore_n 3, 1) := by decide +kernel
theorem dX1_test_57 : decode cX1_test 57 = .ok (.aload_n 0, 1) := by decide +kernel
theorem dX1_test_58 : decode cX1_test 58 = .ok (.getfield 22, 3) := by decide +kernel
theorem dX1_test_61 : decode cX1_test 61 = .ok (.iload_n 1, 1) := by decide +kernel
theorem dX1_test_62 : decode cX1_test 62 = .ok (.iload_n 2, 1) := by decide +kernel
theorem dX1_test_63 : decode cX1_test 63 = .ok (.iload_n 3, 1) := by decide +kernel
theorem dX1_test_64 : decode cX1_test 64 = .ok (.iconst 0, 1) := by decide +kernel
theorem dX1_test_65 : decode cX1_test 65 = .ok (.invokestatic 99, 3) := by decide +kernel
theorem dX1_test_68 : decode cX1_test 68 = .ok (.invokevirtual 71, 3) := by decide +kernel
theorem dX1_test_71 : decode cX1_test 71 = .ok (.iload_n 3, 1) := by decide +kernel
theorem dX1_test_72 : decode cX1_test 72 = .ok (.ifCond .lt 7, 3) := by decide +kernel
theorem dX1_test_75 : decode cX1_test 75 = .ok (.iconst 1, 1) := by decide +kernel
theorem dX1_test_76 : decode cX1_test 76 = .ok (.goto 4, 3) := by decide +kernel
theorem dX1_test_79 : decode cX1_test 79 = .ok (.iconst 0, 1) := by decide +kernel
theorem dX1_test_80 : decode cX1_test 80 = .ok (.ireturn, 1) := by decide +kernel
theorem dX1_number_0 : decode cX1_number 0 = .ok (.iconst (-1), 1) := by decide +kernel
theorem dX1_number_1 : decode cX1_number 1 = .ok (.istore_n 1, 1) := by decide +kernel
theorem dX1_number_2 : decode cX1_number 2 = .ok (.iconst 0, 1) := by decide +kernel
theorem dX1_number_3 : decode cX1_number 3 = .ok (.istore_n 2, 1) := by decide +kernel
theorem dX1_number_4 : decode cX1_number 4 = .ok (.iload_n 2, 1) := by decide +kernel
theorem dX1_number_5 : decode cX1_number 5 = .ok (.iconst 2, 1) := by decide +kernel
theorem dX1_number_6 : decode cX1_number 6 = .ok (.if_icmp .ge 54, 3) := by decide +kernel
theorem dX1_number_9 : decode cX1_number 9 = .ok (.aload_n 0, 1) := by decide +kernel
theorem dX1_number_10 : decode cX1_number 10 = .ok (.invokevirtual 39, 3) := by decide +kernel
theorem dX1_number_13 : decode cX1_number 13 = .ok (.bipush 48, 2) := by decide +kernel
theorem dX1_number_15 : decode cX1_number 15 = .ok (.if_icmp .lt 45, 3) := by decide +kernel
theorem dX1_number_18 : decode cX1_number 18 = .ok (.aload_n 0, 1) := by decide +kernel
theorem dX1_number_19 : decode cX1_number 19 = .ok (.invokevirtual 39, 3) := by decide +kernel
theorem dX1_number_22 : decode cX1_number 22 = .ok (.bipush 57, 2) := by decide +kernel
theorem dX1_number_24 : decode cX1_number 24 = .ok (.if_icmp .gt 36, 3) := by decide +kernel
theorem dX1_number_27 : decode cX1_number 27 = .ok (.iload_n 1, 1) := by decide +kernel
theorem dX1_number_28 : decode cX1_number 28 = .ok (.iconst 0, 1) := by decide +kernel
theorem dX1_number_29 : decode cX1_number 29 = .ok (.invokestatic 99, 3) := by decide +kernel
theorem dX1_number_32 : decode cX1_number 32 = .ok (.bipush 10, 2) := by decide +kernel
theorem dX1_number_34 : decode cX1_number 34 = .ok (.imul, 1) := by decide +kernel
theorem dX1_number_35 : decode cX1_number 35 = .ok (.aload_n 0, 1) := by decide +kernel
theorem dX1_number_36 : decode cX1_number 36 = .ok (.invokevirtual 39, 3) := by decide +kernel
theorem dX1_number_39 : decode cX1_number 39 = .ok (.iadd, 1) := by decide +kernel
theorem dX1_number_40 : decode cX1_number 40 = .ok (.bipush 48, 2) := by decide +kernel
theorem dX1_number_42 : decode cX1_number 42 = .ok (.isub, 1) := by decide +kernel
theorem dX1_number_43 : decode cX1_number 43 = .ok (.istore_n 1, 1) := by decide +kernel
theorem dX1_number_44 : decode cX1_number 44 = .ok (.aload_n 0, 1) := by decide +kernel
theorem dX1_number_45 : decode cX1_number 45 = .ok (.dup, 1) := by decide +kernel
theorem dX1_number_46 : decode cX1_number 46 = .ok (.getfield 19, 3) := by decide +kernel
theorem dX1_number_49 : decode cX1_number 49 = .ok (.iconst 1, 1) := by decide +kernel
theorem dX1_number_50 : decode cX1_number 50 = .ok (.iadd, 1) := by decide +kernel
theorem dX1_number_51 : decode cX1_number 51 = .ok (.putfield 19, 3) := by decide +kernel
theorem dX1_number_54 : decode cX1_number 54 = .ok (.iinc 2 1, 3) := by decide +kernel
theorem dX1_number_57 : decode cX1_number 57 = .ok (.goto (-53), 3) := by decide +kernel
theorem dX1_number_60 : decode cX1_number 60 = .ok (.iload_n 1, 1) := by decide +kernel
theorem dX1_number_61 : decode cX1_number 61 = .ok (.ireturn, 1) := by decide +kernel
theorem dX1_word_0 : decode cX1_word 0 = .ok (.iconst 0, 1) := by decide +kernel
theorem dX1_word_1 : decode cX1_word 1 = .ok (.istore_n 2, 1) := by decide +kernel
theorem dX1_word_2 : decode cX1_word 2 = .ok (.iload_n 2, 1) := by decide +kernel
theorem dX1_word_3 : decode cX1_word 3 = .ok (.aload_n 1, 1) := by decide +kernel
theorem dX1_word_4 : decode cX1_word 4 = .ok (.invokevirtual 102, 3) := by decide +kernel
theorem dX1_word_7 : decode cX1_word 7 = .ok (.if_icmp .ge 23, 3) := by decide +kernel
theorem dX1_word_10 : decode cX1_word 10 = .ok (.aload_n 0, 1) := by decide +kernel
theorem dX1_word_11 : decode cX1_word 11 = .ok (.aload_n 1, 1) := by decide +kernel
theorem dX1_word_12 : decode cX1_word 12 = .ok (.iload_n 2, 1) := by decide +kernel
theorem dX1_word_13 : decode cX1_word 13 = .ok (.invokevirtual 104, 3) := by decide +kernel
theorem dX1_word_16 : decode cX1_word 16 = .ok (.invokevirtual 35, 3) := by decide +kernel
theorem dX1_word_19 : decode cX1_word 19 = .ok (.ifCond .ne 5, 3) := by decide +kernel
theorem dX1_word_22 : decode cX1_word 22 = .ok (.iconst 0, 1) := by decide +kernel
theorem dX1_word_23 : decode cX1_word 23 = .ok (.ireturn, 1) := by decide +kernel
theorem dX1_word_24 : decode cX1_word 24 = .ok (.iinc 2 1, 3) := by decide +kernel
theorem dX1_word_27 : decode cX1_word 27 = .ok (.goto (-25), 3) := by decide +kernel
theorem dX1_word_30 : decode cX1_word 30 = .ok (.iconst 1, 1) := by decide +kernel
theorem dX1_word_31 : decode cX1_word 31 = .ok (.ireturn, 1) := by decide +kernel
theorem dX1_takes_0 : decode cX1_takes 0 = .ok (.aload_n 0, 1) := by decide +kernel
theorem dX1_takes_1 : decode cX1_takes 1 = .ok (.invokevirtual 39, 3) := by decide +kernel
theorem dX1_takes_4 : decode cX1_takes 4 = .ok (.iload_n 1, 1) := by decide +kernel
theorem dX1_takes_5 : decode cX1_takes 5 = .ok (.if_icmp .eq 5, 3) := by decide +kernel
theorem dX1_takes_8 : decode cX1_takes 8 = .ok (.iconst 0, 1) := by decide +kernel
theorem dX1_takes_9 : decode cX1_takes 9 = .ok (.ireturn, 1) := by decide +kernel
theorem dX1_takes_10 : decode cX1_takes 10 = .ok (.aload_n 0, 1) := by decide +kernel
theorem dX1_takes_11 : decode cX1_takes 11 = .ok (.dup, 1) := by decide +kernel
theorem dX1_takes_12 : decode cX1_takes 12 = .ok (.getfield 19, 3) := by decide +kernel
theorem dX1_takes_15 : decode cX1_takes 15 = .ok (.iconst 1, 1) := by decide +kernel
theorem dX1_takes_16 : decode cX1_takes 16 = .ok (.iadd, 1) := by decide +kernel
theorem dX1_takes_17 : decode cX1_takes 17 = .ok (.putfield 19, 3) := by decide +kernel
theorem dX1_takes_20 : decode cX1_takes 20 = .ok (.iconst 1, 1) := by decide +kernel
theorem dX1_takes_21 : decode cX1_takes 21 = .ok (.ireturn, 1) := by decide +kernel
theorem dX1_peeked_0 : decode cX1_peeked 0 = .ok (.aload_n 0, 1) := by decide +kernel
theorem dX1_peeked_1 : decode cX1_peeked 1 = .ok (.getfield 19, 3) := by decide +kernel
theorem dX1_peeked_4 : decode cX1_peeked 4 = .ok (.ifCond .lt 39, 3) := by decide +kernel
theorem dX1_peeked_7 : decode cX1_peeked 7 = .ok (.aload_n 0, 1) := by decide +kernel
theorem dX1_peeked_8 : decode cX1_peeked 8 = .ok (.getfield 19, 3) := by decide +kernel
theorem dX1_peeked_11 : decode cX1_peeked 11 = .ok (.aload_n 0, 1) := by decide +kernel
theorem dX1_peeked_12 : decode cX1_peeked 12 = .ok (.getfield 15, 3) := by decide +kernel
theorem dX1_peeked_15 : decode cX1_peeked 15 = .ok (.if_icmp .ge 28, 3) := by decide +kernel
theorem dX1_peeked_18 : decode cX1_peeked 18 = .ok (.aload_n 0, 1) := by decide +kernel
theorem dX1_peeked_19 : decode cX1_peeked 19 = .ok (.getfield 19, 3) := by decide +kernel
theorem dX1_peeked_22 : decode cX1_peeked 22 = .ok (.aload_n 0, 1) := by decide +kernel
theorem dX1_peeked_23 : decode cX1_peeked 23 = .ok (.getfield 9, 3) := by decide +kernel
theorem dX1_peeked_26 : decode cX1_peeked 26 = .ok (.arraylength, 1) := by decide +kernel
theorem dX1_peeked_27 : decode cX1_peeked 27 = .ok (.if_icmp .ge 16, 3) := by decide +kernel
theorem dX1_peeked_30 : decode cX1_peeked 30 = .ok (.aload_n 0, 1) := by decide +kernel
theorem dX1_peeked_31 : decode cX1_peeked 31 = .ok (.getfield 9, 3) := by decide +kernel
theorem dX1_peeked_34 : decode cX1_peeked 34 = .ok (.aload_n 0, 1) := by decide +kernel
theorem dX1_peeked_35 : decode cX1_peeked 35 = .ok (.getfield 19, 3) := by decide +kernel
theorem dX1_peeked_38 : decode cX1_peeked 38 = .ok (.baload, 1) := by decide +kernel
theorem dX1_peeked_39 : decode cX1_peeked 39 = .ok (.i2c, 1) := by decide +kernel
theorem dX1_peeked_40 : decode cX1_peeked 40 = .ok (.goto 6, 3) := by decide +kernel
theorem dX1_peeked_43 : decode cX1_peeked 43 = .ok (.sipush 128, 3) := by decide +kernel
theorem dX1_peeked_46 : decode cX1_peeked 46 = .ok (.ireturn, 1) := by decide +kernel
theorem dX2_init_0 : decode cX2_init 0 = .ok (.aload_n 0, 1) := by decide +kernel
theorem dX2_init_1 : decode cX2_init 1 = .ok (.invokespecial 1, 3) := by decide +kernel
theorem dX2_init_4 : decode cX2_init 4 = .ok (.aload_n 0, 1) := by decide +kernel
theorem dX2_init_5 : decode cX2_init 5 = .ok (.iconst 0, 1) := by decide +kernel
theorem dX2_init_6 : decode cX2_init 6 = .ok (.putfield 7, 3) := by decide +kernel
theorem dX2_init_9 : decode cX2_init 9 = .ok (.aload_n 0, 1) := by decide +kernel
theorem dX2_init_10 : decode cX2_init 10 = .ok (.bipush 100, 2) := by decide +kernel
theorem dX2_init_12 : decode cX2_init 12 = .ok (.putfield 13, 3) := by decide +kernel
theorem dX2_init_15 : decode cX2_init 15 = .ok (.aload_n 0, 1) := by decide +kernel
theorem dX2_init_16 : decode cX2_init 16 = .ok (.iconst 0, 1) := by decide +kernel
theorem dX2_init_17 : decode cX2_init 17 = .ok (.putfield 16, 3) := by decide +kernel
theorem dX2_init_20 : decode cX2_init 20 = .ok (.return_, 1) := by decide +kernel
theorem dX2_sinkOfMile_0 : decode cX2_sinkOfMile 0 = .ok (.iconst 5, 1) := by decide +kernel
theorem dX2_sinkOfMile_1 : decode cX2_sinkOfMile 1 = .ok (.iload_n 0, 1) := by decide +kernel
theorem dX2_sinkOfMile_2 : decode cX2_sinkOfMile 2 = .ok (.iadd, 1) := by decide +kernel
theorem dX2_sinkOfMile_3 : decode cX2_sinkOfMile 3 = .ok (.ireturn, 1) := by decide +kernel
theorem dX2_copyFrom_0 : decode cX2_copyFrom 0 = .ok (.aload_n 0, 1) := by decide +kernel
theorem dX2_copyFrom_1 : decode cX2_copyFrom 1 = .ok (.aload_n 1, 1) := by decide +kernel
theorem dX2_copyFrom_2 : decode cX2_copyFrom 2 = .ok (.getfield 7, 3) := by decide +kernel
theorem dX2_copyFrom_5 : decode cX2_copyFrom 5 = .ok (.putfield 7, 3) := by decide +kernel
theorem dX2_copyFrom_8 : decode cX2_copyFrom 8 = .ok (.aload_n 0, 1) := by decide +kernel
theorem dX2_copyFrom_9 : decode cX2_copyFrom 9 = .ok (.aload_n 1, 1) := by decide +kernel
theorem dX2_copyFrom_10 : decode cX2_copyFrom 10 = .ok (.getfield 13, 3) := by decide +kernel
theorem dX2_copyFrom_13 : decode cX2_copyFrom 13 = .ok (.putfield 13, 3) := by decide +kernel
theorem dX2_copyFrom_16 : decode cX2_copyFrom 16 = .ok (.aload_n 0, 1) := by decide +kernel
theorem dX2_copyFrom_17 : decode cX2_copyFrom 17 = .ok (.aload_n 1, 1) := by decide +kernel
theorem dX2_copyFrom_18 : decode cX2_copyFrom 18 = .ok (.getfield 16, 3) := by decide +kernel
theorem dX2_copyFrom_21 : decode cX2_copyFrom 21 = .ok (.putfield 16, 3) := by decide +kernel
theorem dX2_copyFrom_24 : decode cX2_copyFrom 24 = .ok (.return_, 1) := by decide +kernel
theorem dX2_glides_0 : decode cX2_glides 0 = .ok (.iload_n 1, 1) := by decide +kernel
theorem dX2_glides_1 : decode cX2_glides 1 = .ok (.aload_n 0, 1) := by decide +kernel
theorem dX2_glides_2 : decode cX2_glides 2 = .ok (.getfield 7, 3) := by decide +kernel
theorem dX2_glides_5 : decode cX2_glides 5 = .ok (.isub, 1) := by decide +kernel
theorem dX2_glides_6 : decode cX2_glides 6 = .ok (.invokestatic 19, 3) := by decide +kernel
theorem dX2_glides_9 : decode cX2_glides 9 = .ok (.istore_n 3, 1) := by decide +kernel
theorem dX2_glides_10 : decode cX2_glides 10 = .ok (.iload_n 3, 1) := by decide +kernel
theorem dX2_glides_11 : decode cX2_glides 11 = .ok (.iload_n 2, 1) := by decide +kernel
theorem dX2_glides_12 : decode cX2_glides 12 = .ok (.invokestatic 25, 3) := by decide +kernel
theorem dX2_glides_15 : decode cX2_glides 15 = .ok (.imul, 1) := by decide +kernel
theorem dX2_glides_16 : decode cX2_glides 16 = .ok (.istore 4, 2) := by decide +kernel
theorem dX2_glides_18 : decode cX2_glides 18 = .ok (.iload 4, 2) := by decide +kernel
theorem dX2_glides_20 : decode cX2_glides 20 = .ok (.aload_n 0, 1) := by decide +kernel
theorem dX2_glides_21 : decode cX2_glides 21 = .ok (.getfield 13, 3) := by decide +kernel
theorem dX2_glides_24 : decode cX2_glides 24 = .ok (.if_icmp .le 5, 3) := by decide +kernel
theorem dX2_glides_27 : decode cX2_glides 27 = .ok (.iconst 0, 1) := by decide +kernel
theorem dX2_glides_28 : decode cX2_glides 28 = .ok (.ireturn, 1) := by decide +kernel
theorem dX2_glides_29 : decode cX2_glides 29 = .ok (.aload_n 0, 1) := by decide +kernel
theorem dX2_glides_30 : decode cX2_glides 30 = .ok (.iload_n 1, 1) := by decide +kernel
theorem dX2_glides_31 : decode cX2_glides 31 = .ok (.putfield 7, 3) := by decide +kernel
theorem dX2_glides_34 : decode cX2_glides 34 = .ok (.aload_n 0, 1) := by decide +kernel
theorem dX2_glides_35 : decode cX2_glides 35 = .ok (.dup, 1) := by decide +kernel
theorem dX2_glides_36 : decode cX2_glides 36 = .ok (.getfield 13, 3) := by decide +kernel
theorem dX2_glides_39 : decode cX2_glides 39 = .ok (.iload 4, 2) := by decide +kernel
theorem dX2_glides_41 : decode cX2_glides 41 = .ok (.isub, 1) := by decide +kernel
theorem dX2_glides_42 : decode cX2_glides 42 = .ok (.putfield 13, 3) := by decide +kernel
theorem dX2_glides_45 : decode cX2_glides 45 = .ok (.aload_n 0, 1) := by decide +kernel
theorem dX2_glides_46 : decode cX2_glides 46 = .ok (.dup, 1) := by decide +kernel
theorem dX2_glides_47 : decode cX2_glides 47 = .ok (.getfield 16, 3) := by decide +kernel
theorem dX2_glides_50 : decode cX2_glides 50 = .ok (.iload_n 3, 1) := by decide +kernel
theorem dX2_glides_51 : decode cX2_glides 51 = .ok (.bipush 10, 2) := by decide +kernel
theorem dX2_glides_53 : decode cX2_glides 53 = .ok (.iload_n 2, 1) := by decide +kernel
theorem dX2_glides_54 : decode cX2_glides 54 = .ok (.isub, 1) := by decide +kernel
theorem dX2_glides_55 : decode cX2_glides 55 = .ok (.imul, 1) := by decide +kernel
theorem dX2_glides_56 : decode cX2_glides 56 = .ok (.iadd, 1) := by decide +kernel
theorem dX2_glides_57 : decode cX2_glides 57 = .ok (.putfield 16, 3) := by decide +kernel
theorem dX2_glides_60 : decode cX2_glides 60 = .ok (.iconst 1, 1) := by decide +kernel
theorem dX2_glides_61 : decode cX2_glides 61 = .ok (.ireturn, 1) := by decide +kernel
theorem dX2_circles_0 : decode cX2_circles 0 = .ok (.iconst 0, 1) := by decide +kernel
theorem dX2_circles_1 : decode cX2_circles 1 = .ok (.istore 4, 2) := by decide +kernel
theorem dX2_circles_3 : decode cX2_circles 3 = .ok (.iload 4, 2) := by decide +kernel
theorem dX2_circles_5 : decode cX2_circles 5 = .ok (.iload_n 3, 1) := by decide +kernel
theorem dX2_circles_6 : decode cX2_circles 6 = .ok (.if_icmp .ge 63, 3) := by decide +kernel
theorem dX2_circles_9 : decode cX2_circles 9 = .ok (.aload_n 2, 1) := by decide +kernel
theorem dX2_circles_10 : decode cX2_circles 10 = .ok (.getfield 28, 3) := by decide +kernel
theorem dX2_circles_13 : decode cX2_circles 13 = .ok (.aload_n 0, 1) := by decide +kernel
theorem dX2_circles_14 : decode cX2_circles 14 = .ok (.getfield 13, 3) := by decide +kernel
theorem dX2_circles_17 : decode cX2_circles 17 = .ok (.invokestatic 33, 3) := by decide +kernel
theorem dX2_circles_20 : decode cX2_circles 20 = .ok (.istore 5, 2) := by decide +kernel
theorem dX2_circles_22 : decode cX2_circles 22 = .ok (.aload_n 0, 1) := by decide +kernel
theorem dX2_circles_23 : decode cX2_circles 23 = .ok (.iconst 0, 1) := by decide +kernel
theorem dX2_circles_24 : decode cX2_circles 24 = .ok (.iload 5, 2) := by decide +kernel
theorem dX2_circles_26 : decode cX2_circles 26 = .ok (.aload_n 0, 1) := by decide +kernel
theorem dX2_circles_27 : decode cX2_circles 27 = .ok (.getfield 13, 3) := by decide +kernel
theorem dX2_circles_30 : decode cX2_circles 30 = .ok (.aload_n 1, 1) := by decide +kernel
theorem dX2_circles_31 : decode cX2_circles 31 = .ok (.aload_n 2, 1) := by decide +kernel
theorem dX2_circles_32 : decode cX2_circles 32 = .ok (.aload_n 0, 1) := by decide +kernel
theorem dX2_circles_33 : decode cX2_circles 33 = .ok (.getfield 13, 3) := by decide +kernel
theorem dX2_circles_36 : decode cX2_circles 36 = .ok (.aload_n 0, 1) := by decide +kernel
theorem dX2_circles_37 : decode cX2_circles 37 = .ok (.getfield 16, 3) := by decide +kernel
theorem dX2_circles_40 : decode cX2_circles 40 = .ok (.invokevirtual 37, 3) := by decide +kernel
theorem dX2_circles_43 : decode cX2_circles 43 = .ok (.iadd, 1) := by decide +kernel
theorem dX2_circles_44 : decode cX2_circles 44 = .ok (.invokestatic 43, 3) := by decide +kernel
theorem dX2_circles_47 : decode cX2_circles 47 = .ok (.invokestatic 33, 3) := by decide +kernel
theorem dX2_circles_50 : decode cX2_circles 50 = .ok (.putfield 13, 3) := by decide +kernel
theorem dX2_circles_53 : decode cX2_circles 53 = .ok (.aload_n 0, 1) := by decide +kernel
theorem dX2_circles_54 : decode cX2_circles 54 = .ok (.dup, 1) := by decide +kernel
theorem dX2_circles_55 : decode cX2_circles 55 = .ok (.getfield 16, 3) := by decide +kernel
theorem dX2_circles_58 : decode cX2_circles 58 = .ok (.iconst 1, 1) := by decide +kernel
theorem dX2_circles_59 : decode cX2_circles 59 = .ok (.iadd, 1) := by decide +kernel
theorem dX2_circles_60 : decode cX2_circles 60 = .ok (.putfield 16, 3) := by decide +kernel
theorem dX2_circles_63 : decode cX2_circles 63 = .ok (.iinc 4 1, 3) := by decide +kernel
theorem dX2_circles_66 : decode cX2_circles 66 = .ok (.goto (-63), 3) := by decide +kernel
theorem dX2_circles_69 : decode cX2_circles 69 = .ok (.return_, 1) := by decide +kernel
theorem dX3_init_0 : decode cX3_init 0 = .ok (.aload_n 0, 1) := by decide +kernel
theorem dX3_init_1 : decode cX3_init 1 = .ok (.invokespecial 3, 3) := by decide +kernel
theorem dX3_init_4 : decode cX3_init 4 = .ok (.aload_n 0, 1) := by decide +kernel
theorem dX3_init_5 : decode cX3_init 5 = .ok (.iconst 4, 1) := by decide +kernel
theorem dX3_init_6 : decode cX3_init 6 = .ok (.newarray .int, 2) := by decide +kernel
theorem dX3_init_8 : decode cX3_init 8 = .ok (.putfield 9, 3) := by decide +kernel
theorem dX3_init_11 : decode cX3_init 11 = .ok (.aload_n 0, 1) := by decide +kernel
theorem dX3_init_12 : decode cX3_init 12 = .ok (.aconst_null, 1) := by decide +kernel
theorem dX3_init_13 : decode cX3_init 13 = .ok (.putfield 15, 3) := by decide +kernel
theorem dX3_init_16 : decode cX3_init 16 = .ok (.aload_n 0, 1) := by decide +kernel
theorem dX3_init_17 : decode cX3_init 17 = .ok (.iload_n 1, 1) := by decide +kernel
theorem dX3_init_18 : decode cX3_init 18 = .ok (.putfield 19, 3) := by decide +kernel
theorem dX3_init_21 : decode cX3_init 21 = .ok (.return_, 1) := by decide +kernel
theorem dX3_begin_0 : decode cX3_begin 0 = .ok (.aload_n 0, 1) := by decide +kernel
theorem dX3_begin_1 : decode cX3_begin 1 = .ok (.iload_n 1, 1) := by decide +kernel
theorem dX3_begin_2 : decode cX3_begin 2 = .ok (.putfield 23, 3) := by decide +kernel
theorem dX3_begin_5 : decode cX3_begin 5 = .ok (.aload_n 0, 1) := by decide +kernel
theorem dX3_begin_6 : decode cX3_begin 6 = .ok (.iload_n 2, 1) := by decide +kernel
theorem dX3_begin_7 : decode cX3_begin 7 = .ok (.putfield 26, 3) := by decide +kernel
theorem dX3_begin_10 : decode cX3_begin 10 = .ok (.aload_n 0, 1) := by decide +kernel
theorem dX3_begin_11 : decode cX3_begin 11 = .ok (.iload_n 3, 1) := by decide +kernel
theorem dX3_begin_12 : decode cX3_begin 12 = .ok (.putfield 29, 3) := by decide +kernel
theorem dX3_begin_15 : decode cX3_begin 15 = .ok (.aload_n 0, 1) := by decide +kernel
theorem dX3_begin_16 : decode cX3_begin 16 = .ok (.iload 4, 2) := by decide +kernel
theorem dX3_begin_18 : decode cX3_begin 18 = .ok (.putfield 32, 3) := by decide +kernel
theorem dX3_begin_21 : decode cX3_begin 21 = .ok (.aload_n 0, 1) := by decide +kernel
theorem dX3_begin_22 : decode cX3_begin 22 = .ok (.getfield 9, 3) := by decide +kernel
theorem dX3_begin_25 : decode cX3_begin 25 = .ok (.iconst 0, 1) := by decide +kernel
theorem dX3_begin_26 : decode cX3_begin 26 = .ok (.invokestatic 35, 3) := by decide +kernel
theorem dX3_begin_29 : decode cX3_begin 29 = .ok (.aload_n 0, 1) := by decide +kernel
theorem dX3_begin_30 : decode cX3_begin 30 = .ok (.aconst_null, 1) := by decide +kernel
theorem dX3_begin_31 : decode cX3_begin 31 = .ok (.putfield 15, 3) := by decide +kernel
theorem dX3_begin_34 : decode cX3_begin 34 = .ok (.return_, 1) := by decide +kernel
theorem dX3_copyFrom_0 : decode cX3_copyFrom 0 = .ok (.aload_n 0, 1) := by decide +kernel
theorem dX3_copyFrom_1 : decode cX3_copyFrom 1 = .ok (.aload_n 1, 1) := by decide +kernel
theorem dX3_copyFrom_2 : decode cX3_copyFrom 2 = .ok (.getfield 23, 3) := by decide +kernel
theorem dX3_copyFrom_5 : decode cX3_copyFrom 5 = .ok (.aload_n 1, 1) := by decide +kernel
theorem dX3_copyFrom_6 : decode cX3_copyFrom 6 = .ok (.getfield 26, 3) := by decide +kernel
theorem dX3_copyFrom_9 : decode cX3_copyFrom 9 = .ok (.aload_n 1, 1) := by decide +kernel
theorem dX3_copyFrom_10 : decode cX3_copyFrom 10 = .ok (.getfield 29, 3) := by decide +kernel
theorem dX3_copyFrom_13 : decode cX3_copyFrom 13 = .ok (.aload_n 1, 1) := by decide +kernel
theorem dX3_copyFrom_14 : decode cX3_copyFrom 14 = .ok (.getfield 32, 3) := by decide +kernel
theorem dX3_copyFrom_17 : decode cX3_copyFrom 17 = .ok (.invokevirtual 41, 3) := by decide +kernel
theorem dX3_copyFrom_20 : decode cX3_copyFrom 20 = .ok (.aload_n 1, 1) := by decide +kernel
theorem dX3_copyFrom_21 : decode cX3_copyFrom 21 = .ok (.getfield 9, 3) := by decide +kernel
theorem dX3_copyFrom_24 : decode cX3_copyFrom 24 = .ok (.iconst 0, 1) := by decide +kernel
theorem dX3_copyFrom_25 : decode cX3_copyFrom 25 = .ok (.aload_n 0, 1) := by decide +kernel
theorem dX3_copyFrom_26 : decode cX3_copyFrom 26 = .ok (.getfield 9, 3) := by decide +kernel
theorem dX3_copyFrom_29 : decode cX3_copyFrom 29 = .ok (.iconst 0, 1) := by decide +kernel
theorem dX3_copyFrom_30 : decode cX3_copyFrom 30 = .ok (.aload_n 0, 1) := by decide +kernel
theorem dX3_copyFrom_31 : decode cX3_copyFrom 31 = .ok (.getfield 9, 3) := by decide +kernel
theorem dX3_copyFrom_34 : decode cX3_copyFrom 34 = .ok (.arraylength, 1) := by decide +kernel
theorem dX3_copyFrom_35 : decode cX3_copyFrom 35 = .ok (.invokestatic 45, 3) := by decide +kernel
theorem dX3_copyFrom_38 : decode cX3_copyFrom 38 = .ok (.return_, 1) := by decide +kernel
theorem dX3_gain_0 : decode cX3_gain 0 = .ok (.iload_n 2, 1) := by decide +kernel
theorem dX3_gain_1 : decode cX3_gain 1 = .ok (.bipush 50, 2) := by decide +kernel
theorem dX3_gain_3 : decode cX3_gain 3 = .ok (.idiv, 1) := by decide +kernel
theorem dX3_gain_4 : decode cX3_gain 4 = .ok (.istore 4, 2) := by decide +kernel
theorem dX3_gain_6 : decode cX3_gain 6 = .ok (.iload_n 3, 1) := by decide +kernel
theorem dX3_gain_7 : decode cX3_gain 7 = .ok (.bipush 10, 2) := by decide +kernel
theorem dX3_gain_9 : decode cX3_gain 9 = .ok (.idiv, 1) := by decide +kernel
theorem dX3_gain_10 : decode cX3_gain 10 = .ok (.bipush 99, 2) := by decide +kernel
theorem dX3_gain_12 : decode cX3_gain 12 = .ok (.invokestatic 51, 3) := by decide +kernel
theorem dX3_gain_15 : decode cX3_gain 15 = .ok (.istore 5, 2) := by decide +kernel
theorem dX3_gain_17 : decode cX3_gain 17 = .ok (.aload_n 0, 1) := by decide +kernel
theorem dX3_gain_18 : decode cX3_gain 18 = .ok (.getfield 15, 3) := by decide +kernel
theorem dX3_gain_21 : decode cX3_gain 21 = .ok (.aload_n 1, 1) := by decide +kernel
theorem dX3_gain_22 : decode cX3_gain 22 = .ok (.if_acmp .ne 21, 3) := by decide +kernel
theorem dX3_gain_25 : decode cX3_gain 25 = .ok (.aload_n 0, 1) := by decide +kernel
theorem dX3_gain_26 : decode cX3_gain 26 = .ok (.getfield 57, 3) := by decide +kernel
theorem dX3_gain_29 : decode cX3_gain 29 = .ok (.iload 4, 2) := by decide +kernel
theorem dX3_gain_31 : decode cX3_gain 31 = .ok (.if_icmp .ne 12, 3) := by decide +kernel
theorem dX3_gain_34 : decode cX3_gain 34 = .ok (.aload_n 0, 1) := by decide +kernel
theorem dX3_gain_35 : decode cX3_gain 35 = .ok (.getfield 60, 3) := by decide +kernel
theorem dX3_gain_38 : decode cX3_gain 38 = .ok (.iload 5, 2) := by decide +kernel
theorem dX3_gain_40 : decode cX3_gain 40 = .ok (.if_icmp .eq 33, 3) := by decide +kernel
theorem dX3_gain_43 : decode cX3_gain 43 = .ok (.aload_n 0, 1) := by decide +kernel
theorem dX3_gain_44 : decode cX3_gain 44 = .ok (.aload_n 1, 1) := by decide +kernel
theorem dX3_gain_45 : decode cX3_gain 45 = .ok (.putfield 15, 3) := by decide +kernel
theorem dX3_gain_48 : decode cX3_gain 48 = .ok (.aload_n 0, 1) := by decide +kernel
theorem dX3_gain_49 : decode cX3_gain 49 = .ok (.iload 4, 2) := by decide +kernel
theorem dX3_gain_51 : decode cX3_gain 51 = .ok (.putfield 57, 3) := by decide +kernel
theorem dX3_gain_54 : decode cX3_gain 54 = .ok (.aload_n 0, 1) := by decide +kernel
theorem dX3_gain_55 : decode cX3_gain 55 = .ok (.iload 5, 2) := by decide +kernel
theorem dX3_gain_57 : decode cX3_gain 57 = .ok (.putfield 60, 3) := by decide +kernel
theorem dX3_gain_60 : decode cX3_gain 60 = .ok (.aload_n 0, 1) := by decide +kernel
theorem dX3_gain_61 : decode cX3_gain 61 = .ok (.aload_n 1, 1) := by decide +kernel
theorem dX3_gain_62 : decode cX3_gain 62 = .ok (.aload_n 0, 1) := by decide +kernel
theorem dX3_gain_63 : decode cX3_gain 63 = .ok (.iload 4, 2) := by decide +kernel
theorem dX3_gain_65 : decode cX3_gain 65 = .ok (.iload 5, 2) := by decide +kernel
theorem dX3_gain_67 : decode cX3_gain 67 = .ok (.invokevirtual 63, 3) := by decide +kernel
theorem dX3_gain_70 : decode cX3_gain 70 = .ok (.putfield 69, 3) := by decide +kernel
theorem dX3_gain_73 : decode cX3_gain 73 = .ok (.aload_n 0, 1) := by decide +kernel
theorem dX3_gain_74 : decode cX3_gain 74 = .ok (.getfield 32, 3) := by decide +kernel
theorem dX3_gain_77 : decode cX3_gain 77 = .ok (.aload_n 0, 1) := by decide +kernel
theorem dX3_gain_78 : decode cX3_gain 78 = .ok (.getfield 69, 3) := by decide +kernel
theorem dX3_gain_81 : decode cX3_gain 81 = .ok (.iadd, 1) := by decide +kernel
theorem dX3_gain_82 : decode cX3_gain 82 = .ok (.ireturn, 1) := by decide +kernel
theorem dX3_climb_0 : decode cX3_climb 0 = .ok (.aload_n 0, 1) := by decide +kernel
theorem dX3_climb_1 : decode cX3_climb 1 = .ok (.aload_n 1, 1) := by decide +kernel
theorem dX3_climb_2 : decode cX3_climb 2 = .ok (.iload_n 2, 1) := by decide +kernel
theorem dX3_climb_3 : decode cX3_climb 3 = .ok (.iload_n 3, 1) := by decide +kernel
theorem dX3_climb_4 : decode cX3_climb 4 = .ok (.invokevirtual 72, 3) := by decide +kernel
theorem dX3_climb_7 : decode cX3_climb 7 = .ok (.istore 4, 2) := by decide +kernel
theorem dX3_climb_9 : decode cX3_climb 9 = .ok (.aload_n 0, 1) := by decide +kernel
theorem dX3_climb_10 : decode cX3_climb 10 = .ok (.getfield 23, 3) := by decide +kernel
theorem dX3_climb_13 : decode cX3_climb 13 = .ok (.tableswitch 136 1 6 #[39, 49, 54, 68, 93, 113], 39) := by decide +kernel
theorem dX3_climb_52 : decode cX3_climb 52 = .ok (.iload 4, 2) := by decide +kernel
theorem dX3_climb_54 : decode cX3_climb 54 = .ok (.aload_n 0, 1) := by decide +kernel
theorem dX3_climb_55 : decode cX3_climb 55 = .ok (.getfield 26, 3) := by decide +kernel
theorem dX3_climb_58 : decode cX3_climb 58 = .ok (.iconst 2, 1) := by decide +kernel
theorem dX3_climb_59 : decode cX3_climb 59 = .ok (.idiv, 1) := by decide +kernel
theorem dX3_climb_60 : decode cX3_climb 60 = .ok (.iadd, 1) := by decide +kernel
theorem dX3_climb_61 : decode cX3_climb 61 = .ok (.ireturn, 1) := by decide +kernel
theorem dX3_climb_62 : decode cX3_climb 62 = .ok (.iload 4, 2) := by decide +kernel
theorem dX3_climb_64 : decode cX3_climb 64 = .ok (.iconst 2, 1) := by decide +kernel
theorem dX3_climb_65 : decode cX3_climb 65 = .ok (.idiv, 1) := by decide +kernel
theorem dX3_climb_66 : decode cX3_climb 66 = .ok (.ireturn, 1) := by decide +kernel
theorem dX3_climb_67 : decode cX3_climb 67 = .ok (.iload_n 3, 1) := by decide +kernel
theorem dX3_climb_68 : decode cX3_climb 68 = .ok (.bipush 100, 2) := by decide +kernel
theorem dX3_climb_70 : decode cX3_climb 70 = .ok (.if_icmp .lt 8, 3) := by decide +kernel
theorem dX3_climb_73 : decode cX3_climb 73 = .ok (.bipush (-2), 2) := by decide +kernel
theorem dX3_climb_75 : decode cX3_climb 75 = .ok (.goto 5, 3) := by decide +kernel
theorem dX3_climb_78 : decode cX3_climb 78 = .ok (.iload 4, 2) := by decide +kernel
theorem dX3_climb_80 : decode cX3_climb 80 = .ok (.ireturn, 1) := by decide +kernel
theorem dX3_climb_81 : decode cX3_climb 81 = .ok (.iload_n 2, 1) := by decide +kernel
theorem dX3_climb_82 : decode cX3_climb 82 = .ok (.bipush 40, 2) := by decide +kernel
theorem dX3_climb_84 : decode cX3_climb 84 = .ok (.aload_n 0, 1) := by decide +kernel
theorem dX3_climb_85 : decode cX3_climb 85 = .ok (.getfield 26, 3) := by decide +kernel
theorem dX3_climb_88 : decode cX3_climb 88 = .ok (.imul, 1) := by decide +kernel
theorem dX3_climb_89 : decode cX3_climb 89 = .ok (.if_icmp .le 7, 3) := by decide +kernel
theorem dX3_climb_92 : decode cX3_climb 92 = .ok (.iconst 0, 1) := by decide +kernel
theorem dX3_climb_93 : decode cX3_climb 93 = .ok (.goto 12, 3) := by decide +kernel
theorem dX3_climb_96 : decode cX3_climb 96 = .ok (.iload 4, 2) := by decide +kernel
theorem dX3_climb_98 : decode cX3_climb 98 = .ok (.aload_n 0, 1) := by decide +kernel
theorem dX3_climb_99 : decode cX3_climb 99 = .ok (.getfield 26, 3) := by decide +kernel
theorem dX3_climb_102 : decode cX3_climb 102 = .ok (.iconst 2, 1) := by decide +kernel
theorem dX3_climb_103 : decode cX3_climb 103 = .ok (.idiv, 1) := by decide +kernel
theorem dX3_climb_104 : decode cX3_climb 104 = .ok (.iadd, 1) := by decide +kernel
theorem dX3_climb_105 : decode cX3_climb 105 = .ok (.ireturn, 1) := by decide +kernel
theorem dX3_climb_106 : decode cX3_climb 106 = .ok (.iload_n 3, 1) := by decide +kernel
theorem dX3_climb_107 : decode cX3_climb 107 = .ok (.aload_n 0, 1) := by decide +kernel
theorem dX3_climb_108 : decode cX3_climb 108 = .ok (.getfield 26, 3) := by decide +kernel
theorem dX3_climb_111 : decode cX3_climb 111 = .ok (.iconst 2, 1) := by decide +kernel
theorem dX3_climb_112 : decode cX3_climb 112 = .ok (.iadd, 1) := by decide +kernel
theorem dX3_climb_113 : decode cX3_climb 113 = .ok (.irem, 1) := by decide +kernel
theorem dX3_climb_114 : decode cX3_climb 114 = .ok (.ifCond .ne 7, 3) := by decide +kernel
theorem dX3_climb_117 : decode cX3_climb 117 = .ok (.iconst (-1), 1) := by decide +kernel
theorem dX3_climb_118 : decode cX3_climb 118 = .ok (.goto 7, 3) := by decide +kernel
theorem dX3_climb_121 : decode cX3_climb 121 = .ok (.iload 4, 2) := by decide +kernel
theorem dX3_climb_123 : decode cX3_climb 123 = .ok (.iconst 2, 1) := by decide +kernel
theorem dX3_climb_124 : decode cX3_climb 124 = .ok (.idiv, 1) := by decide +kernel
theorem dX3_climb_125 : decode cX3_climb 125 = .ok (.ireturn, 1) := by decide +kernel
theorem dX3_climb_126 : decode cX3_climb 126 = .ok (.iload_n 3, 1) := by decide +kernel
theorem dX3_climb_127 : decode cX3_climb 127 = .ok (.bipush 100, 2) := by decide +kernel
theorem dX3_climb_129 : decode cX3_climb 129 = .ok (.if_icmp .lt 8, 3) := by decide +kernel
theorem dX3_climb_132 : decode cX3_climb 132 = .ok (.bipush (-2), 2) := by decide +kernel
theorem dX3_climb_134 : decode cX3_climb 134 = .ok (.goto 5, 3) := by decide +kernel
theorem dX3_climb_137 : decode cX3_climb 137 = .ok (.iload 4, 2) := by decide +kernel
theorem dX3_climb_139 : decode cX3_climb 139 = .ok (.aload_n 0, 1) := by decide +kernel
theorem dX3_climb_140 : decode cX3_climb 140 = .ok (.getfield 9, 3) := by decide +kernel
theorem dX3_climb_143 : decode cX3_climb 143 = .ok (.iload_n 3, 1) := by decide +kernel
theorem dX3_climb_144 : decode cX3_climb 144 = .ok (.iconst 3, 1) := by decide +kernel
theorem dX3_climb_145 : decode cX3_climb 145 = .ok (.iand, 1) := by decide +kernel
theorem dX3_climb_146 : decode cX3_climb 146 = .ok (.iaload, 1) := by decide +kernel
theorem dX3_climb_147 : decode cX3_climb 147 = .ok (.iadd, 1) := by decide +kernel
theorem dX3_climb_148 : decode cX3_climb 148 = .ok (.ireturn, 1) := by decide +kernel
theorem dX3_climb_149 : decode cX3_climb 149 = .ok (.iload 4, 2) := by decide +kernel
theorem dX3_climb_151 : decode cX3_climb 151 = .ok (.ireturn, 1) := by decide +kernel
theorem dX4_init_0 : decode cX4_init 0 = .ok (.aload_n 0, 1) := by decide +kernel
theorem dX4_init_1 : decode cX4_init 1 = .ok (.invokespecial 3, 3) := by decide +kernel
theorem dX4_init_4 : decode cX4_init 4 = .ok (.aload_n 0, 1) := by decide +kernel
theorem dX4_init_5 : decode cX4_init 5 = .ok (.iconst 0, 1) := by decide +kernel
theorem dX4_init_6 : decode cX4_init 6 = .ok (.putfield 9, 3) := by decide +kernel
theorem dX4_init_9 : decode cX4_init 9 = .ok (.aload_n 0, 1) := by decide +kernel
theorem dX4_init_10 : decode cX4_init 10 = .ok (.iload_n 1, 1) := by decide +kernel
theorem dX4_init_11 : decode cX4_init 11 = .ok (.newarray .int, 2) := by decide +kernel
theorem dX4_init_13 : decode cX4_init 13 = .ok (.putfield 15, 3) := by decide +kernel
theorem dX4_init_16 : decode cX4_init 16 = .ok (.aload_n 0, 1) := by decide +kernel
theorem dX4_init_17 : decode cX4_init 17 = .ok (.iload_n 1, 1) := by decide +kernel
theorem dX4_init_18 : decode cX4_init 18 = .ok (.newarray .int, 2) := by decide +kernel
theorem dX4_init_20 : decode cX4_init 20 = .ok (.putfield 19, 3) := by decide +kernel
theorem dX4_init_23 : decode cX4_init 23 = .ok (.return_, 1) := by decide +kernel
theorem dX4_add_0 : decode cX4_add 0 = .ok (.aload_n 0, 1) := by decide +kernel
theorem dX4_add_1 : decode cX4_add 1 = .ok (.getfield 9, 3) := by decide +kernel
theorem dX4_add_4 : decode cX4_add 4 = .ok (.aload_n 0, 1) := by decide +kernel
theorem dX4_add_5 : decode cX4_add 5 = .ok (.getfield 19, 3) := by decide +kernel
theorem dX4_add_8 : decode cX4_add 8 = .ok (.arraylength, 1) := by decide +kernel
theorem dX4_add_9 : decode cX4_add 9 = .ok (.if_icmp .lt 6, 3) := by decide +kernel
theorem dX4_add_12 : decode cX4_add 12 = .ok (.bipush (-4), 2) := by decide +kernel
theorem dX4_add_14 : decode cX4_add 14 = .ok (.ireturn, 1) := by decide +kernel
theorem dX4_add_15 : decode cX4_add 15 = .ok (.aload_n 0, 1) := by decide +kernel
theorem dX4_add_16 : decode cX4_add 16 = .ok (.getfield 15, 3) := by decide +kernel
theorem dX4_add_19 : decode cX4_add 19 = .ok (.aload_n 0, 1) := by decide +kernel
theorem dX4_add_20 : decode cX4_add 20 = .ok (.getfield 9, 3) := by decide +kernel
theorem dX4_add_23 : decode cX4_add 23 = .ok (.iload_n 1, 1) := by decide +kernel
theorem dX4_add_24 : decode cX4_add 24 = .ok (.iastore, 1) := by decide +kernel
theorem dX4_add_25 : decode cX4_add 25 = .ok (.aload_n 0, 1) := by decide +kernel
theorem dX4_add_26 : decode cX4_add 26 = .ok (.getfield 19, 3) := by decide +kernel
theorem dX4_add_29 : decode cX4_add 29 = .ok (.aload_n 0, 1) := by decide +kernel
theorem dX4_add_30 : decode cX4_add 30 = .ok (.getfield 9, 3) := by decide +kernel
theorem dX4_add_33 : decode cX4_add 33 = .ok (.iload_n 2, 1) := by decide +kernel
theorem dX4_add_34 : decode cX4_add 34 = .ok (.iastore, 1) := by decide +kernel
theorem dX4_add_35 : decode cX4_add 35 = .ok (.aload_n 0, 1) := by decide +kernel
theorem dX4_add_36 : decode cX4_add 36 = .ok (.dup, 1) := by decide +kernel
theorem dX4_add_37 : decode cX4_add 37 = .ok (.getfield 9, 3) := by decide +kernel
theorem dX4_add_40 : decode cX4_add 40 = .ok (.iconst 1, 1) := by decide +kernel
theorem dX4_add_41 : decode cX4_add 41 = .ok (.iadd, 1) := by decide +kernel
theorem dX4_add_42 : decode cX4_add 42 = .ok (.putfield 9, 3) := by decide +kernel
theorem dX4_add_45 : decode cX4_add 45 = .ok (.aload_n 0, 1) := by decide +kernel
theorem dX4_add_46 : decode cX4_add 46 = .ok (.getfield 9, 3) := by decide +kernel
theorem dX4_add_49 : decode cX4_add 49 = .ok (.ireturn, 1) := by decide +kernel
theorem dX4_copyFrom_0 : decode cX4_copyFrom 0 = .ok (.aload_n 0, 1) := by decide +kernel
theorem dX4_copyFrom_1 : decode cX4_copyFrom 1 = .ok (.aload_n 1, 1) := by decide +kernel
theorem dX4_copyFrom_2 : decode cX4_copyFrom 2 = .ok (.getfield 9, 3) := by decide +kernel
theorem dX4_copyFrom_5 : decode cX4_copyFrom 5 = .ok (.aload_n 0, 1) := by decide +kernel
theorem dX4_copyFrom_6 : decode cX4_copyFrom 6 = .ok (.getfield 19, 3) := by decide +kernel
theorem dX4_copyFrom_9 : decode cX4_copyFrom 9 = .ok (.arraylength, 1) := by decide +kernel
theorem dX4_copyFrom_10 : decode cX4_copyFrom 10 = .ok (.invokestatic 22, 3) := by decide +kernel
theorem dX4_copyFrom_13 : decode cX4_copyFrom 13 = .ok (.putfield 9, 3) := by decide +kernel
theorem dX4_copyFrom_16 : decode cX4_copyFrom 16 = .ok (.aload_n 1, 1) := by decide +kernel
theorem dX4_copyFrom_17 : decode cX4_copyFrom 17 = .ok (.getfield 15, 3) := by decide +kernel
theorem dX4_copyFrom_20 : decode cX4_copyFrom 20 = .ok (.iconst 0, 1) := by decide +kernel
theorem dX4_copyFrom_21 : decode cX4_copyFrom 21 = .ok (.aload_n 0, 1) := by decide +kernel
theorem dX4_copyFrom_22 : decode cX4_copyFrom 22 = .ok (.getfield 15, 3) := by decide +kernel
theorem dX4_copyFrom_25 : decode cX4_copyFrom 25 = .ok (.iconst 0, 1) := by decide +kernel
theorem dX4_copyFrom_26 : decode cX4_copyFrom 26 = .ok (.aload_n 0, 1) := by decide +kernel
theorem dX4_copyFrom_27 : decode cX4_copyFrom 27 = .ok (.getfield 9, 3) := by decide +kernel
theorem dX4_copyFrom_30 : decode cX4_copyFrom 30 = .ok (.invokestatic 28, 3) := by decide +kernel
theorem dX4_copyFrom_33 : decode cX4_copyFrom 33 = .ok (.aload_n 1, 1) := by decide +kernel
theorem dX4_copyFrom_34 : decode cX4_copyFrom 34 = .ok (.getfield 19, 3) := by decide +kernel
theorem dX4_copyFrom_37 : decode cX4_copyFrom 37 = .ok (.iconst 0, 1) := by decide +kernel
theorem dX4_copyFrom_38 : decode cX4_copyFrom 38 = .ok (.aload_n 0, 1) := by decide +kernel
theorem dX4_copyFrom_39 : decode cX4_copyFrom 39 = .ok (.getfield 19, 3) := by decide +kernel
theorem dX4_copyFrom_42 : decode cX4_copyFrom 42 = .ok (.iconst 0, 1) := by decide +kernel
theorem dX4_copyFrom_43 : decode cX4_copyFrom 43 = .ok (.aload_n 0, 1) := by decide +kernel
theorem dX4_copyFrom_44 : decode cX4_copyFrom 44 = .ok (.getfield 9, 3) := by decide +kernel
theorem dX4_copyFrom_47 : decode cX4_copyFrom 47 = .ok (.invokestatic 28, 3) := by decide +kernel
theorem dX4_copyFrom_50 : decode cX4_copyFrom 50 = .ok (.return_, 1) := by decide +kernel
theorem dX5_init_0 : decode cX5_init 0 = .ok (.aload_n 0, 1) := by decide +kernel
theorem dX5_init_1 : decode cX5_init 1 = .ok (.invokespecial 3, 3) := by decide +kernel
theorem dX5_init_4 : decode cX5_init 4 = .ok (.aload_n 0, 1) := by decide +kernel
theorem dX5_init_5 : decode cX5_init 5 = .ok (.bipush 6, 2) := by decide +kernel
theorem dX5_init_7 : decode cX5_init 7 = .ok (.anewarray 9, 3) := by decide +kernel
theorem dX5_init_10 : decode cX5_init 10 = .ok (.putfield 11, 3) := by decide +kernel
theorem dX5_init_13 : decode cX5_init 13 = .ok (.aload_n 0, 1) := by decide +kernel
theorem dX5_init_14 : decode cX5_init 14 = .ok (.new 17, 3) := by decide +kernel
theorem dX5_init_17 : decode cX5_init 17 = .ok (.dup, 1) := by decide +kernel
theorem dX5_init_18 : decode cX5_init 18 = .ok (.invokespecial 19, 3) := by decide +kernel
theorem dX5_init_21 : decode cX5_init 21 = .ok (.putfield 20, 3) := by decide +kernel
theorem dX5_init_24 : decode cX5_init 24 = .ok (.aload_n 0, 1) := by decide +kernel
theorem dX5_init_25 : decode cX5_init 25 = .ok (.new 24, 3) := by decide +kernel
theorem dX5_init_28 : decode cX5_init 28 = .ok (.dup, 1) := by decide +kernel
theorem dX5_init_29 : decode cX5_init 29 = .ok (.iconst 4, 1) := by decide +kernel
theorem dX5_init_30 : decode cX5_init 30 = .ok (.invokespecial 26, 3) := by decide +kernel
theorem dX5_init_33 : decode cX5_init 33 = .ok (.putfield 29, 3) := by decide +kernel
theorem dX5_init_36 : decode cX5_init 36 = .ok (.aload_n 0, 1) := by decide +kernel
theorem dX5_init_37 : decode cX5_init 37 = .ok (.new 24, 3) := by decide +kernel
theorem dX5_init_40 : decode cX5_init 40 = .ok (.dup, 1) := by decide +kernel
theorem dX5_init_41 : decode cX5_init 41 = .ok (.iconst 5, 1) := by decide +kernel
theorem dX5_init_42 : decode cX5_init 42 = .ok (.invokespecial 26, 3) := by decide +kernel
theorem dX5_init_45 : decode cX5_init 45 = .ok (.putfield 33, 3) := by decide +kernel
theorem dX5_init_48 : decode cX5_init 48 = .ok (.aload_n 0, 1) := by decide +kernel
theorem dX5_init_49 : decode cX5_init 49 = .ok (.new 24, 3) := by decide +kernel
theorem dX5_init_52 : decode cX5_init 52 = .ok (.dup, 1) := by decide +kernel
theorem dX5_init_53 : decode cX5_init 53 = .ok (.bipush 8, 2) := by decide +kernel
theorem dX5_init_55 : decode cX5_init 55 = .ok (.invokespecial 26, 3) := by decide +kernel
theorem dX5_init_58 : decode cX5_init 58 = .ok (.putfield 36, 3) := by decide +kernel
theorem dX5_init_61 : decode cX5_init 61 = .ok (.aload_n 0, 1) := by decide +kernel
theorem dX5_init_62 : decode cX5_init 62 = .ok (.iconst 0, 1) := by decide +kernel
theorem dX5_init_63 : decode cX5_init 63 = .ok (.putfield 39, 3) := by decide +kernel
theorem dX5_init_66 : decode cX5_init 66 = .ok (.aload_n 0, 1) := by decide +kernel
theorem dX5_init_67 : decode cX5_init 67 = .ok (.bipush (-5), 2) := by decide +kernel
theorem dX5_init_69 : decode cX5_init 69 = .ok (.putfield 43, 3) := by decide +kernel
theorem dX5_init_72 : decode cX5_init 72 = .ok (.aload_n 0, 1) := by decide +kernel
theorem dX5_init_73 : decode cX5_init 73 = .ok (.bipush 60, 2) := by decide +kernel
theorem dX5_init_75 : decode cX5_init 75 = .ok (.putfield 46, 3) := by decide +kernel
theorem dX5_init_78 : decode cX5_init 78 = .ok (.aload_n 0, 1) := by decide +kernel
theorem dX5_init_79 : decode cX5_init 79 = .ok (.aload_n 1, 1) := by decide +kernel
theorem dX5_init_80 : decode cX5_init 80 = .ok (.putfield 49, 3) := by decide +kernel
theorem dX5_init_83 : decode cX5_init 83 = .ok (.iconst 0, 1) := by decide +kernel
theorem dX5_init_84 : decode cX5_init 84 = .ok (.istore_n 2, 1) := by decide +kernel
theorem dX5_init_85 : decode cX5_init 85 = .ok (.iload_n 2, 1) := by decide +kernel
theorem dX5_init_86 : decode cX5_init 86 = .ok (.aload_n 0, 1) := by decide +kernel
theorem dX5_init_87 : decode cX5_init 87 = .ok (.getfield 11, 3) := by decide +kernel
theorem dX5_init_90 : decode cX5_init 90 = .ok (.arraylength, 1) := by decide +kernel
theorem dX5_init_91 : decode cX5_init 91 = .ok (.if_icmp .ge 23, 3) := by decide +kernel
theorem dX5_init_94 : decode cX5_init 94 = .ok (.aload_n 0, 1) := by decide +kernel
theorem dX5_init_95 : decode cX5_init 95 = .ok (.getfield 11, 3) := by decide +kernel
theorem dX5_init_98 : decode cX5_init 98 = .ok (.iload_n 2, 1) := by decide +kernel
theorem dX5_init_99 : decode cX5_init 99 = .ok (.new 9, 3) := by decide +kernel
theorem dX5_init_102 : decode cX5_init 102 = .ok (.dup, 1) := by decide +kernel
theorem dX5_init_103 : decode cX5_init 103 = .ok (.iload_n 2, 1) := by decide +kernel
theorem dX5_init_104 : decode cX5_init 104 = .ok (.invokespecial 53, 3) := by decide +kernel
theorem dX5_init_107 : decode cX5_init 107 = .ok (.aastore, 1) := by decide +kernel
theorem dX5_init_108 : decode cX5_init 108 = .ok (.iinc 2 1, 3) := by decide +kernel
theorem dX5_init_111 : decode cX5_init 111 = .ok (.goto (-26), 3) := by decide +kernel
theorem dX5_init_114 : decode cX5_init 114 = .ok (.return_, 1) := by decide +kernel
theorem dX5_copyFrom_0 : decode cX5_copyFrom 0 = .ok (.aload_n 0, 1) := by decide +kernel
theorem dX5_copyFrom_1 : decode cX5_copyFrom 1 = .ok (.aload_n 1, 1) := by decide +kernel
theorem dX5_copyFrom_2 : decode cX5_copyFrom 2 = .ok (.getfield 39, 3) := by decide +kernel
theorem dX5_copyFrom_5 : decode cX5_copyFrom 5 = .ok (.putfield 39, 3) := by decide +kernel
theorem dX5_copyFrom_8 : decode cX5_copyFrom 8 = .ok (.iconst 0, 1) := by decide +kernel
theorem dX5_copyFrom_9 : decode cX5_copyFrom 9 = .ok (.istore_n 2, 1) := by decide +kernel
theorem dX5_copyFrom_10 : decode cX5_copyFrom 10 = .ok (.iload_n 2, 1) := by decide +kernel
theorem dX5_copyFrom_11 : decode cX5_copyFrom 11 = .ok (.aload_n 0, 1) := by decide +kernel
theorem dX5_copyFrom_12 : decode cX5_copyFrom 12 = .ok (.getfield 39, 3) := by decide +kernel
theorem dX5_copyFrom_15 : decode cX5_copyFrom 15 = .ok (.if_icmp .ge 24, 3) := by decide +kernel
theorem dX5_copyFrom_18 : decode cX5_copyFrom 18 = .ok (.aload_n 0, 1) := by decide +kernel
theorem dX5_copyFrom_19 : decode cX5_copyFrom 19 = .ok (.getfield 11, 3) := by decide +kernel
theorem dX5_copyFrom_22 : decode cX5_copyFrom 22 = .ok (.iload_n 2, 1) := by decide +kernel
theorem dX5_copyFrom_23 : decode cX5_copyFrom 23 = .ok (.aaload, 1) := by decide +kernel
theorem dX5_copyFrom_24 : decode cX5_copyFrom 24 = .ok (.aload_n 1, 1) := by decide +kernel
theorem dX5_copyFrom_25 : decode cX5_copyFrom 25 = .ok (.getfield 11, 3) := by decide +kernel
theorem dX5_copyFrom_28 : decode cX5_copyFrom 28 = .ok (.iload_n 2, 1) := by decide +kernel
theorem dX5_copyFrom_29 : decode cX5_copyFrom 29 = .ok (.aaload, 1) := by decide +kernel
theorem dX5_copyFrom_30 : decode cX5_copyFrom 30 = .ok (.invokevirtual 54, 3) := by decide +kernel
theorem dX5_copyFrom_33 : decode cX5_copyFrom 33 = .ok (.iinc 2 1, 3) := by decide +kernel
theorem dX5_copyFrom_36 : decode cX5_copyFrom 36 = .ok (.goto (-26), 3) := by decide +kernel
theorem dX5_copyFrom_39 : decode cX5_copyFrom 39 = .ok (.aload_n 0, 1) := by decide +kernel
theorem dX5_copyFrom_40 : decode cX5_copyFrom 40 = .ok (.getfield 20, 3) := by decide +kernel
theorem dX5_copyFrom_43 : decode cX5_copyFrom 43 = .ok (.aload_n 1, 1) := by decide +kernel
theorem dX5_copyFrom_44 : decode cX5_copyFrom 44 = .ok (.getfield 20, 3) := by decide +kernel
theorem dX5_copyFrom_47 : decode cX5_copyFrom 47 = .ok (.invokevirtual 58, 3) := by decide +kernel
theorem dX5_copyFrom_50 : decode cX5_copyFrom 50 = .ok (.aload_n 0, 1) := by decide +kernel
theorem dX5_copyFrom_51 : decode cX5_copyFrom 51 = .ok (.getfield 29, 3) := by decide +kernel
theorem dX5_copyFrom_54 : decode cX5_copyFrom 54 = .ok (.aload_n 1, 1) := by decide +kernel
theorem dX5_copyFrom_55 : decode cX5_copyFrom 55 = .ok (.getfield 29, 3) := by decide +kernel
theorem dX5_copyFrom_58 : decode cX5_copyFrom 58 = .ok (.invokevirtual 61, 3) := by decide +kernel
theorem dX5_copyFrom_61 : decode cX5_copyFrom 61 = .ok (.aload_n 0, 1) := by decide +kernel
theorem dX5_copyFrom_62 : decode cX5_copyFrom 62 = .ok (.getfield 33, 3) := by decide +kernel
theorem dX5_copyFrom_65 : decode cX5_copyFrom 65 = .ok (.aload_n 1, 1) := by decide +kernel
theorem dX5_copyFrom_66 : decode cX5_copyFrom 66 = .ok (.getfield 33, 3) := by decide +kernel
theorem dX5_copyFrom_69 : decode cX5_copyFrom 69 = .ok (.invokevirtual 61, 3) := by decide +kernel
theorem dX5_copyFrom_72 : decode cX5_copyFrom 72 = .ok (.aload_n 0, 1) := by decide +kernel
theorem dX5_copyFrom_73 : decode cX5_copyFrom 73 = .ok (.getfield 36, 3) := by decide +kernel
theorem dX5_copyFrom_76 : decode cX5_copyFrom 76 = .ok (.aload_n 1, 1) := by decide +kernel
theorem dX5_copyFrom_77 : decode cX5_copyFrom 77 = .ok (.getfield 36, 3) := by decide +kernel
theorem dX5_copyFrom_80 : decode cX5_copyFrom 80 = .ok (.invokevirtual 61, 3) := by decide +kernel
theorem dX5_copyFrom_83 : decode cX5_copyFrom 83 = .ok (.aload_n 0, 1) := by decide +kernel
theorem dX5_copyFrom_84 : decode cX5_copyFrom 84 = .ok (.aload_n 1, 1) := by decide +kernel
theorem dX5_copyFrom_85 : decode cX5_copyFrom 85 = .ok (.getfield 43, 3) := by decide +kernel
theorem dX5_copyFrom_88 : decode cX5_copyFrom 88 = .ok (.putfield 43, 3) := by decide +kernel
theorem dX5_copyFrom_91 : decode cX5_copyFrom 91 = .ok (.aload_n 0, 1) := by decide +kernel
theorem dX5_copyFrom_92 : decode cX5_copyFrom 92 = .ok (.aload_n 1, 1) := by decide +kernel
theorem dX5_copyFrom_93 : decode cX5_copyFrom 93 = .ok (.getfield 46, 3) := by decide +kernel
theorem dX5_copyFrom_96 : decode cX5_copyFrom 96 = .ok (.putfield 46, 3) := by decide +kernel
theorem dX5_copyFrom_99 : decode cX5_copyFrom 99 = .ok (.aload_n 0, 1) := by decide +kernel
theorem dX5_copyFrom_100 : decode cX5_copyFrom 100 = .ok (.aload_n 1, 1) := by decide +kernel
theorem dX5_copyFrom_101 : decode cX5_copyFrom 101 = .ok (.getfield 49, 3) := by decide +kernel
theorem dX5_copyFrom_104 : decode cX5_copyFrom 104 = .ok (.putfield 49, 3) := by decide +kernel
theorem dX5_copyFrom_107 : decode cX5_copyFrom 107 = .ok (.return_, 1) := by decide +kernel
theorem dX6_init_0 : decode cX6_init 0 = .ok (.aload_n 0, 1) := by decide +kernel
theorem dX6_init_1 : decode cX6_init 1 = .ok (.invokespecial 3, 3) := by decide +kernel
theorem dX6_init_4 : decode cX6_init 4 = .ok (.aload_n 0, 1) := by decide +kernel
theorem dX6_init_5 : decode cX6_init 5 = .ok (.bipush 60, 2) := by decide +kernel
theorem dX6_init_7 : decode cX6_init 7 = .ok (.newarray .long, 2) := by decide +kernel
theorem dX6_init_9 : decode cX6_init 9 = .ok (.putfield 9, 3) := by decide +kernel
theorem dX6_init_12 : decode cX6_init 12 = .ok (.aload_n 0, 1) := by decide +kernel
theorem dX6_init_13 : decode cX6_init 13 = .ok (.iconst (-1), 1) := by decide +kernel
theorem dX6_init_14 : decode cX6_init 14 = .ok (.putfield 15, 3) := by decide +kernel
theorem dX6_init_17 : decode cX6_init 17 = .ok (.aload_n 0, 1) := by decide +kernel
theorem dX6_init_18 : decode cX6_init 18 = .ok (.iconst 0, 1) := by decide +kernel
theorem dX6_init_19 : decode cX6_init 19 = .ok (.putfield 19, 3) := by decide +kernel
theorem dX6_init_22 : decode cX6_init 22 = .ok (.return_, 1) := by decide +kernel
theorem dX6_holds_0 : decode cX6_holds 0 = .ok (.aload_n 0, 1) := by decide +kernel
theorem dX6_holds_1 : decode cX6_holds 1 = .ok (.getfield 15, 3) := by decide +kernel
theorem dX6_holds_4 : decode cX6_holds 4 = .ok (.iconst (-1), 1) := by decide +kernel
theorem dX6_holds_5 : decode cX6_holds 5 = .ok (.if_icmp .eq 7, 3) := by decide +kernel
theorem dX6_holds_8 : decode cX6_holds 8 = .ok (.iconst 1, 1) := by decide +kernel
theorem dX6_holds_9 : decode cX6_holds 9 = .ok (.goto 4, 3) := by decide +kernel
theorem dX6_holds_12 : decode cX6_holds 12 = .ok (.iconst 0, 1) := by decide +kernel
theorem dX6_holds_13 : decode cX6_holds 13 = .ok (.ireturn, 1) := by decide +kernel
theorem dX6_begin_0 : decode cX6_begin 0 = .ok (.aload_n 0, 1) := by decide +kernel
theorem dX6_begin_1 : decode cX6_begin 1 = .ok (.iload_n 1, 1) := by decide +kernel
theorem dX6_begin_2 : decode cX6_begin 2 = .ok (.putfield 15, 3) := by decide +kernel
theorem dX6_begin_5 : decode cX6_begin 5 = .ok (.aload_n 0, 1) := by decide +kernel
theorem dX6_begin_6 : decode cX6_begin 6 = .ok (.iload_n 2, 1) := by decide +kernel
theorem dX6_begin_7 : decode cX6_begin 7 = .ok (.putfield 19, 3) := by decide +kernel
theorem dX6_begin_10 : decode cX6_begin 10 = .ok (.aload_n 0, 1) := by decide +kernel
theorem dX6_begin_11 : decode cX6_begin 11 = .ok (.getfield 9, 3) := by decide +kernel
theorem dX6_begin_14 : decode cX6_begin 14 = .ok (.lconst 0, 1) := by decide +kernel
theorem dX6_begin_15 : decode cX6_begin 15 = .ok (.invokestatic 22, 3) := by decide +kernel
theorem dX6_begin_18 : decode cX6_begin 18 = .ok (.return_, 1) := by decide +kernel
theorem dX6_cut_0 : decode cX6_cut 0 = .ok (.aload_n 0, 1) := by decide +kernel
theorem dX6_cut_1 : decode cX6_cut 1 = .ok (.getfield 15, 3) := by decide +kernel
theorem dX6_cut_4 : decode cX6_cut 4 = .ok (.tableswitch 62 0 4 #[36, 41, 46, 62, 50], 36) := by decide +kernel
theorem dX6_cut_40 : decode cX6_cut 40 = .ok (.lload_n 1, 1) := by decide +kernel
theorem dX6_cut_41 : decode cX6_cut 41 = .ok (.l2i, 1) := by decide +kernel
theorem dX6_cut_42 : decode cX6_cut 42 = .ok (.i2b, 1) := by decide +kernel
theorem dX6_cut_43 : decode cX6_cut 43 = .ok (.i2l, 1) := by decide +kernel
theorem dX6_cut_44 : decode cX6_cut 44 = .ok (.lreturn, 1) := by decide +kernel
theorem dX6_cut_45 : decode cX6_cut 45 = .ok (.lload_n 1, 1) := by decide +kernel
theorem dX6_cut_46 : decode cX6_cut 46 = .ok (.l2i, 1) := by decide +kernel
theorem dX6_cut_47 : decode cX6_cut 47 = .ok (.i2s, 1) := by decide +kernel
theorem dX6_cut_48 : decode cX6_cut 48 = .ok (.i2l, 1) := by decide +kernel
theorem dX6_cut_49 : decode cX6_cut 49 = .ok (.lreturn, 1) := by decide +kernel
theorem dX6_cut_50 : decode cX6_cut 50 = .ok (.lload_n 1, 1) := by decide +kernel
theorem dX6_cut_51 : decode cX6_cut 51 = .ok (.l2i, 1) := by decide +kernel
theorem dX6_cut_52 : decode cX6_cut 52 = .ok (.i2l, 1) := by decide +kernel
theorem dX6_cut_53 : decode cX6_cut 53 = .ok (.lreturn, 1) := by decide +kernel
theorem dX6_cut_54 : decode cX6_cut 54 = .ok (.lload_n 1, 1) := by decide +kernel
theorem dX6_cut_55 : decode cX6_cut 55 = .ok (.lconst 0, 1) := by decide +kernel
theorem dX6_cut_56 : decode cX6_cut 56 = .ok (.lcmp, 1) := by decide +kernel
theorem dX6_cut_57 : decode cX6_cut 57 = .ok (.ifCond .eq 7, 3) := by decide +kernel
theorem dX6_cut_60 : decode cX6_cut 60 = .ok (.lconst 1, 1) := by decide +kernel
theorem dX6_cut_61 : decode cX6_cut 61 = .ok (.goto 4, 3) := by decide +kernel
theorem dX6_cut_64 : decode cX6_cut 64 = .ok (.lconst 0, 1) := by decide +kernel
theorem dX6_cut_65 : decode cX6_cut 65 = .ok (.lreturn, 1) := by decide +kernel
theorem dX6_cut_66 : decode cX6_cut 66 = .ok (.lload_n 1, 1) := by decide +kernel
theorem dX6_cut_67 : decode cX6_cut 67 = .ok (.lreturn, 1) := by decide +kernel
theorem dX7_init_0 : decode cX7_init 0 = .ok (.aload_n 0, 1) := by decide +kernel
theorem dX7_init_1 : decode cX7_init 1 = .ok (.invokespecial 3, 3) := by decide +kernel
theorem dX7_init_4 : decode cX7_init 4 = .ok (.aload_n 0, 1) := by decide +kernel
theorem dX7_init_5 : decode cX7_init 5 = .ok (.new 9, 3) := by decide +kernel
theorem dX7_init_8 : decode cX7_init 8 = .ok (.dup, 1) := by decide +kernel
theorem dX7_init_9 : decode cX7_init 9 = .ok (.invokespecial 11, 3) := by decide +kernel
theorem dX7_init_12 : decode cX7_init 12 = .ok (.putfield 12, 3) := by decide +kernel
theorem dX7_init_15 : decode cX7_init 15 = .ok (.aload_n 0, 1) := by decide +kernel
theorem dX7_init_16 : decode cX7_init 16 = .ok (.new 18, 3) := by decide +kernel
theorem dX7_init_19 : decode cX7_init 19 = .ok (.dup, 1) := by decide +kernel
theorem dX7_init_20 : decode cX7_init 20 = .ok (.aload_n 0, 1) := by decide +kernel
theorem dX7_init_21 : decode cX7_init 21 = .ok (.getfield 12, 3) := by decide +kernel
theorem dX7_init_24 : decode cX7_init 24 = .ok (.invokespecial 20, 3) := by decide +kernel
theorem dX7_init_27 : decode cX7_init 27 = .ok (.putfield 23, 3) := by decide +kernel
theorem dX7_init_30 : decode cX7_init 30 = .ok (.aload_n 0, 1) := by decide +kernel
theorem dX7_init_31 : decode cX7_init 31 = .ok (.new 18, 3) := by decide +kernel
theorem dX7_init_34 : decode cX7_init 34 = .ok (.dup, 1) := by decide +kernel
theorem dX7_init_35 : decode cX7_init 35 = .ok (.aload_n 0, 1) := by decide +kernel
theorem dX7_init_36 : decode cX7_init 36 = .ok (.getfield 12, 3) := by decide +kernel
theorem dX7_init_39 : decode cX7_init 39 = .ok (.invokespecial 20, 3) := by decide +kernel
theorem dX7_init_42 : decode cX7_init 42 = .ok (.putfield 27, 3) := by decide +kernel
theorem dX7_init_45 : decode cX7_init 45 = .ok (.aload_n 0, 1) := by decide +kernel
theorem dX7_init_46 : decode cX7_init 46 = .ok (.new 30, 3) := by decide +kernel
theorem dX7_init_49 : decode cX7_init 49 = .ok (.dup, 1) := by decide +kernel
theorem dX7_init_50 : decode cX7_init 50 = .ok (.invokespecial 32, 3) := by decide +kernel
theorem dX7_init_53 : decode cX7_init 53 = .ok (.putfield 33, 3) := by decide +kernel
theorem dX7_init_56 : decode cX7_init 56 = .ok (.aload_n 0, 1) := by decide +kernel
theorem dX7_init_57 : decode cX7_init 57 = .ok (.new 37, 3) := by decide +kernel
theorem dX7_init_60 : decode cX7_init 60 = .ok (.dup, 1) := by decide +kernel
theorem dX7_init_61 : decode cX7_init 61 = .ok (.aload_n 0, 1) := by decide +kernel
theorem dX7_init_62 : decode cX7_init 62 = .ok (.getfield 12, 3) := by decide +kernel
theorem dX7_init_65 : decode cX7_init 65 = .ok (.invokespecial 39, 3) := by decide +kernel
theorem dX7_init_68 : decode cX7_init 68 = .ok (.putfield 40, 3) := by decide +kernel
theorem dX7_init_71 : decode cX7_init 71 = .ok (.aload_n 0, 1) := by decide +kernel
theorem dX7_init_72 : decode cX7_init 72 = .ok (.bipush 6, 2) := by decide +kernel
theorem dX7_init_74 : decode cX7_init 74 = .ok (.anewarray 9, 3) := by decide +kernel
theorem dX7_init_77 : decode cX7_init 77 = .ok (.putfield 44, 3) := by decide +kernel
theorem dX7_init_80 : decode cX7_init 80 = .ok (.aload_n 0, 1) := by decide +kernel
theorem dX7_init_81 : decode cX7_init 81 = .ok (.bipush 20, 2) := by decide +kernel
theorem dX7_init_83 : decode cX7_init 83 = .ok (.newarray .int, 2) := by decide +kernel
theorem dX7_init_85 : decode cX7_init 85 = .ok (.putfield 48, 3) := by decide +kernel
theorem dX7_init_88 : decode cX7_init 88 = .ok (.aload_n 0, 1) := by decide +kernel
theorem dX7_init_89 : decode cX7_init 89 = .ok (.bipush 6, 2) := by decide +kernel
theorem dX7_init_91 : decode cX7_init 91 = .ok (.anewarray 52, 3) := by decide +kernel
theorem dX7_init_94 : decode cX7_init 94 = .ok (.putfield 54, 3) := by decide +kernel
theorem dX7_init_97 : decode cX7_init 97 = .ok (.aload_n 0, 1) := by decide +kernel
theorem dX7_init_98 : decode cX7_init 98 = .ok (.iconst 0, 1) := by decide +kernel
theorem dX7_init_99 : decode cX7_init 99 = .ok (.putfield 58, 3) := by decide +kernel
theorem dX7_init_102 : decode cX7_init 102 = .ok (.aload_n 0, 1) := by decide +kernel
theorem dX7_init_103 : decode cX7_init 103 = .ok (.iconst 0, 1) := by decide +kernel
theorem dX7_init_104 : decode cX7_init 104 = .ok (.putfield 62, 3) := by decide +kernel
theorem dX7_init_107 : decode cX7_init 107 = .ok (.aload_n 0, 1) := by decide +kernel
theorem dX7_init_108 : decode cX7_init 108 = .ok (.iconst 0, 1) := by decide +kernel
theorem dX7_init_109 : decode cX7_init 109 = .ok (.putfield 65, 3) := by decide +kernel
theorem dX7_init_112 : decode cX7_init 112 = .ok (.iconst 0, 1) := by decide +kernel
theorem dX7_init_113 : decode cX7_init 113 = .ok (.istore_n 1, 1) := by decide +kernel
theorem dX7_init_114 : decode cX7_init 114 = .ok (.iload_n 1, 1) := by decide +kernel
theorem dX7_init_115 : decode cX7_init 115 = .ok (.aload_n 0, 1) := by decide +kernel
theorem dX7_init_116 : decode cX7_init 116 = .ok (.getfield 54, 3) := by decide +kernel
theorem dX7_init_119 : decode cX7_init 119 = .ok (.arraylength, 1) := by decide +kernel
theorem dX7_init_120 : decode cX7_init 120 = .ok (.if_icmp .ge 22, 3) := by decide +kernel
theorem dX7_init_123 : decode cX7_init 123 = .ok (.aload_n 0, 1) := by decide +kernel
theorem dX7_init_124 : decode cX7_init 124 = .ok (.getfield 54, 3) := by decide +kernel
theorem dX7_init_127 : decode cX7_init 127 = .ok (.iload_n 1, 1) := by decide +kernel
theorem dX7_init_128 : decode cX7_init 128 = .ok (.new 52, 3) := by decide +kernel
theorem dX7_init_131 : decode cX7_init 131 = .ok (.dup, 1) := by decide +kernel
theorem dX7_init_132 : decode cX7_init 132 = .ok (.invokespecial 69, 3) := by decide +kernel
theorem dX7_init_135 : decode cX7_init 135 = .ok (.aastore, 1) := by decide +kernel
theorem dX7_init_136 : decode cX7_init 136 = .ok (.iinc 1 1, 3) := by decide +kernel
theorem dX7_init_139 : decode cX7_init 139 = .ok (.goto (-25), 3) := by decide +kernel
theorem dX7_init_142 : decode cX7_init 142 = .ok (.return_, 1) := by decide +kernel
theorem dX7_lift_0 : decode cX7_lift 0 = .ok (.iload_n 1, 1) := by decide +kernel
theorem dX7_lift_1 : decode cX7_lift 1 = .ok (.invokestatic 70, 3) := by decide +kernel
theorem dX7_lift_4 : decode cX7_lift 4 = .ok (.ifCond .ne 5, 3) := by decide +kernel
theorem dX7_lift_7 : decode cX7_lift 7 = .ok (.iconst (-1), 1) := by decide +kernel
theorem dX7_lift_8 : decode cX7_lift 8 = .ok (.ireturn, 1) := by decide +kernel
theorem dX7_lift_9 : decode cX7_lift 9 = .ok (.iload_n 2, 1) := by decide +kernel
theorem dX7_lift_10 : decode cX7_lift 10 = .ok (.iconst 0, 1) := by decide +kernel
theorem dX7_lift_11 : decode cX7_lift 11 = .ok (.bipush 9, 2) := by decide +kernel
theorem dX7_lift_13 : decode cX7_lift 13 = .ok (.invokestatic 74, 3) := by decide +kernel
theorem dX7_lift_16 : decode cX7_lift 16 = .ok (.ifCond .eq 21, 3) := by decide +kernel
theorem dX7_lift_19 : decode cX7_lift 19 = .ok (.iload_n 3, 1) := by decide +kernel
theorem dX7_lift_20 : decode cX7_lift 20 = .ok (.invokestatic 78, 3) := by decide +kernel
theorem dX7_lift_23 : decode cX7_lift 23 = .ok (.ifCond .eq 14, 3) := by decide +kernel
theorem dX7_lift_26 : decode cX7_lift 26 = .ok (.iload 4, 2) := by decide +kernel
theorem dX7_lift_28 : decode cX7_lift 28 = .ok (.iconst 0, 1) := by decide +kernel
theorem dX7_lift_29 : decode cX7_lift 29 = .ok (.bipush 20, 2) := by decide +kernel
theorem dX7_lift_31 : decode cX7_lift 31 = .ok (.invokestatic 74, 3) := by decide +kernel
theorem dX7_lift_34 : decode cX7_lift 34 = .ok (.ifCond .ne 6, 3) := by decide +kernel
theorem dX7_lift_37 : decode cX7_lift 37 = .ok (.bipush (-2), 2) := by decide +kernel
theorem dX7_lift_39 : decode cX7_lift 39 = .ok (.ireturn, 1) := by decide +kernel
theorem dX7_lift_40 : decode cX7_lift 40 = .ok (.aload_n 0, 1) := by decide +kernel
theorem dX7_lift_41 : decode cX7_lift 41 = .ok (.getfield 23, 3) := by decide +kernel
theorem dX7_lift_44 : decode cX7_lift 44 = .ok (.getfield 81, 3) := by decide +kernel
theorem dX7_lift_47 : decode cX7_lift 47 = .ok (.bipush 6, 2) := by decide +kernel
theorem dX7_lift_49 : decode cX7_lift 49 = .ok (.if_icmp .lt 6, 3) := by decide +kernel
theorem dX7_lift_52 : decode cX7_lift 52 = .ok (.bipush (-4), 2) := by decide +kernel
theorem dX7_lift_54 : decode cX7_lift 54 = .ok (.ireturn, 1) := by decide +kernel
theorem dX7_lift_55 : decode cX7_lift 55 = .ok (.aload_n 0, 1) := by decide +kernel
theorem dX7_lift_56 : decode cX7_lift 56 = .ok (.getfield 23, 3) := by decide +kernel
theorem dX7_lift_59 : decode cX7_lift 59 = .ok (.getfield 84, 3) := by decide +kernel
theorem dX7_lift_62 : decode cX7_lift 62 = .ok (.aload_n 0, 1) := by decide +kernel
theorem dX7_lift_63 : decode cX7_lift 63 = .ok (.getfield 23, 3) := by decide +kernel
theorem dX7_lift_66 : decode cX7_lift 66 = .ok (.getfield 81, 3) := by decide +kernel
theorem dX7_lift_69 : decode cX7_lift 69 = .ok (.aaload, 1) := by decide +kernel
theorem dX7_lift_70 : decode cX7_lift 70 = .ok (.iload_n 1, 1) := by decide +kernel
theorem dX7_lift_71 : decode cX7_lift 71 = .ok (.iload_n 2, 1) := by decide +kernel
theorem dX7_lift_72 : decode cX7_lift 72 = .ok (.iload_n 3, 1) := by decide +kernel
theorem dX7_lift_73 : decode cX7_lift 73 = .ok (.iload 4, 2) := by decide +kernel
theorem dX7_lift_75 : decode cX7_lift 75 = .ok (.invokevirtual 88, 3) := by decide +kernel
theorem dX7_lift_78 : decode cX7_lift 78 = .ok (.aload_n 0, 1) := by decide +kernel
theorem dX7_lift_79 : decode cX7_lift 79 = .ok (.getfield 23, 3) := by decide +kernel
theorem dX7_lift_82 : decode cX7_lift 82 = .ok (.dup, 1) := by decide +kernel
theorem dX7_lift_83 : decode cX7_lift 83 = .ok (.getfield 81, 3) := by decide +kernel
theorem dX7_lift_86 : decode cX7_lift 86 = .ok (.iconst 1, 1) := by decide +kernel
theorem dX7_lift_87 : decode cX7_lift 87 = .ok (.iadd, 1) := by decide +kernel
theorem dX7_lift_88 : decode cX7_lift 88 = .ok (.putfield 81, 3) := by decide +kernel
theorem dX7_lift_91 : decode cX7_lift 91 = .ok (.aload_n 0, 1) := by decide +kernel
theorem dX7_lift_92 : decode cX7_lift 92 = .ok (.getfield 23, 3) := by decide +kernel
theorem dX7_lift_95 : decode cX7_lift 95 = .ok (.getfield 81, 3) := by decide +kernel
theorem dX7_lift_98 : decode cX7_lift 98 = .ok (.iconst 1, 1) := by decide +kernel
theorem dX7_lift_99 : decode cX7_lift 99 = .ok (.isub, 1) := by decide +kernel
theorem dX7_lift_100 : decode cX7_lift 100 = .ok (.ireturn, 1) := by decide +kernel
theorem dX7_of_0 : decode cX7_of 0 = .ok (.aload_n 0, 1) := by decide +kernel
theorem dX7_of_1 : decode cX7_of 1 = .ok (.iload_n 1, 1) := by decide +kernel
theorem dX7_of_2 : decode cX7_of 2 = .ok (.invokevirtual 94, 3) := by decide +kernel
theorem dX7_of_5 : decode cX7_of 5 = .ok (.ifCond .ne 7, 3) := by decide +kernel
theorem dX7_of_8 : decode cX7_of 8 = .ok (.sipush (-1001), 3) := by decide +kernel
theorem dX7_of_11 : decode cX7_of 11 = .ok (.ireturn, 1) := by decide +kernel
theorem dX7_of_12 : decode cX7_of 12 = .ok (.aload_n 0, 1) := by decide +kernel
theorem dX7_of_13 : decode cX7_of 13 = .ok (.getfield 23, 3) := by decide +kernel
theorem dX7_of_16 : decode cX7_of 16 = .ok (.getfield 84, 3) := by decide +kernel
theorem dX7_of_19 : decode cX7_of 19 = .ok (.iload_n 1, 1) := by decide +kernel
theorem dX7_of_20 : decode cX7_of 20 = .ok (.aaload, 1) := by decide +kernel
theorem dX7_of_21 : decode cX7_of 21 = .ok (.astore_n 3, 1) := by decide +kernel
theorem dX7_of_22 : decode cX7_of 22 = .ok (.iload_n 2, 1) := by decide +kernel
theorem dX7_of_23 : decode cX7_of 23 = .ok (.tableswitch 121 0 5 #[37, 42, 47, 52, 57, 89], 37) := by decide +kernel
theorem dX7_of_60 : decode cX7_of 60 = .ok (.aload_n 3, 1) := by decide +kernel
theorem dX7_of_61 : decode cX7_of 61 = .ok (.getfield 97, 3) := by decide +kernel
theorem dX7_of_64 : decode cX7_of 64 = .ok (.ireturn, 1) := by decide +kernel
theorem dX7_of_65 : decode cX7_of 65 = .ok (.aload_n 3, 1) := by decide +kernel
theorem dX7_of_66 : decode cX7_of 66 = .ok (.getfield 100, 3) := by decide +kernel
theorem dX7_of_69 : decode cX7_of 69 = .ok (.ireturn, 1) := by decide +kernel
theorem dX7_of_70 : decode cX7_of 70 = .ok (.aload_n 3, 1) := by decide +kernel
theorem dX7_of_71 : decode cX7_of 71 = .ok (.getfield 103, 3) := by decide +kernel
theorem dX7_of_74 : decode cX7_of 74 = .ok (.ireturn, 1) := by decide +kernel
theorem dX7_of_75 : decode cX7_of 75 = .ok (.aload_n 3, 1) := by decide +kernel
theorem dX7_of_76 : decode cX7_of 76 = .ok (.getfield 106, 3) := by decide +kernel
theorem dX7_of_79 : decode cX7_of 79 = .ok (.ireturn, 1) := by decide +kernel
theorem dX7_of_80 : decode cX7_of 80 = .ok (.aload_n 3, 1) := by decide +kernel
theorem dX7_of_81 : decode cX7_of 81 = .ok (.aload_n 0, 1) := by decide +kernel
theorem dX7_of_82 : decode cX7_of 82 = .ok (.getfield 23, 3) := by decide +kernel
theorem dX7_of_85 : decode cX7_of 85 = .ok (.getfield 109, 3) := by decide +kernel
theorem dX7_of_88 : decode cX7_of 88 = .ok (.aload_n 0, 1) := by decide +kernel
theorem dX7_of_89 : decode cX7_of 89 = .ok (.getfield 23, 3) := by decide +kernel
theorem dX7_of_92 : decode cX7_of 92 = .ok (.getfield 112, 3) := by decide +kernel
theorem dX7_of_95 : decode cX7_of 95 = .ok (.getfield 115, 3) := by decide +kernel
theorem dX7_of_98 : decode cX7_of 98 = .ok (.aload_n 0, 1) := by decide +kernel
theorem dX7_of_99 : decode cX7_of 99 = .ok (.getfield 23, 3) := by decide +kernel
theorem dX7_of_102 : decode cX7_of 102 = .ok (.getfield 112, 3) := by decide +kernel
theorem dX7_of_105 : decode cX7_of 105 = .ok (.getfield 118, 3) := by decide +kernel
theorem dX7_of_108 : decode cX7_of 108 = .ok (.invokevirtual 121, 3) := by decide +kernel
theorem dX7_of_111 : decode cX7_of 111 = .ok (.ireturn, 1) := by decide +kernel
theorem dX7_of_112 : decode cX7_of 112 = .ok (.aload_n 3, 1) := by decide +kernel
theorem dX7_of_113 : decode cX7_of 113 = .ok (.aload_n 0, 1) := by decide +kernel
theorem dX7_of_114 : decode cX7_of 114 = .ok (.getfield 23, 3) := by decide +kernel
theorem dX7_of_117 : decode cX7_of 117 = .ok (.getfield 109, 3) := by decide +kernel
theorem dX7_of_120 : decode cX7_of 120 = .ok (.aload_n 0, 1) := by decide +kernel
theorem dX7_of_121 : decode cX7_of 121 = .ok (.getfield 23, 3) := by decide +kernel
theorem dX7_of_124 : decode cX7_of 124 = .ok (.getfield 112, 3) := by decide +kernel
theorem dX7_of_127 : decode cX7_of 127 = .ok (.getfield 115, 3) := by decide +kernel
theorem dX7_of_130 : decode cX7_of 130 = .ok (.aload_n 0, 1) := by decide +kernel
theorem dX7_of_131 : decode cX7_of 131 = .ok (.getfield 23, 3) := by decide +kernel
theorem dX7_of_134 : decode cX7_of 134 = .ok (.getfield 112, 3) := by decide +kernel
theorem dX7_of_137 : decode cX7_of 137 = .ok (.getfield 118, 3) := by decide +kernel
theorem dX7_of_140 : decode cX7_of 140 = .ok (.invokevirtual 125, 3) := by decide +kernel
theorem dX7_of_143 : decode cX7_of 143 = .ok (.ireturn, 1) := by decide +kernel
theorem dX7_of_144 : decode cX7_of 144 = .ok (.sipush (-1001), 3) := by decide +kernel
theorem dX7_of_147 : decode cX7_of 147 = .ok (.ireturn, 1) := by decide +kernel
theorem dX7_pull_0 : decode cX7_pull 0 = .ok (.aload_n 0, 1) := by decide +kernel
theorem dX7_pull_1 : decode cX7_pull 1 = .ok (.iload_n 1, 1) := by decide +kernel
theorem dX7_pull_2 : decode cX7_pull 2 = .ok (.invokevirtual 94, 3) := by decide +kernel
theorem dX7_pull_5 : decode cX7_pull 5 = .ok (.ifCond .ne 5, 3) := by decide +kernel
theorem dX7_pull_8 : decode cX7_pull 8 = .ok (.iconst (-1), 1) := by decide +kernel
theorem dX7_pull_9 : decode cX7_pull 9 = .ok (.ireturn, 1) := by decide +kernel
theorem dX7_pull_10 : decode cX7_pull 10 = .ok (.iload_n 2, 1) := by decide +kernel
theorem dX7_pull_11 : decode cX7_pull 11 = .ok (.iconst 0, 1) := by decide +kernel
theorem dX7_pull_12 : decode cX7_pull 12 = .ok (.bipush 20, 2) := by decide +kernel
theorem dX7_pull_14 : decode cX7_pull 14 = .ok (.invokestatic 74, 3) := by decide +kernel
theorem dX7_pull_17 : decode cX7_pull 17 = .ok (.ifCond .ne 6, 3) := by decide +kernel
theorem dX7_pull_20 : decode cX7_pull 20 = .ok (.bipush (-2), 2) := by decide +kernel
theorem dX7_pull_22 : decode cX7_pull 22 = .ok (.ireturn, 1) := by decide +kernel
theorem dX7_pull_23 : decode cX7_pull 23 = .ok (.aload_n 0, 1) := by decide +kernel
theorem dX7_pull_24 : decode cX7_pull 24 = .ok (.getfield 23, 3) := by decide +kernel
theorem dX7_pull_27 : decode cX7_pull 27 = .ok (.getfield 84, 3) := by decide +kernel
theorem dX7_pull_30 : decode cX7_pull 30 = .ok (.iload_n 1, 1) := by decide +kernel
theorem dX7_pull_31 : decode cX7_pull 31 = .ok (.aaload, 1) := by decide +kernel
theorem dX7_pull_32 : decode cX7_pull 32 = .ok (.getfield 106, 3) := by decide +kernel
theorem dX7_pull_35 : decode cX7_pull 35 = .ok (.istore_n 3, 1) := by decide +kernel
theorem dX7_pull_36 : decode cX7_pull 36 = .ok (.aload_n 0, 1) := by decide +kernel
theorem dX7_pull_37 : decode cX7_pull 37 = .ok (.getfield 23, 3) := by decide +kernel
theorem dX7_pull_40 : decode cX7_pull 40 = .ok (.getfield 84, 3) := by decide +kernel
theorem dX7_pull_43 : decode cX7_pull 43 = .ok (.iload_n 1, 1) := by decide +kernel
theorem dX7_pull_44 : decode cX7_pull 44 = .ok (.aaload, 1) := by decide +kernel
theorem dX7_pull_45 : decode cX7_pull 45 = .ok (.iload_n 2, 1) := by decide +kernel
theorem dX7_pull_46 : decode cX7_pull 46 = .ok (.putfield 106, 3) := by decide +kernel
theorem dX7_pull_49 : decode cX7_pull 49 = .ok (.iload_n 3, 1) := by decide +kernel
theorem dX7_pull_50 : decode cX7_pull 50 = .ok (.ireturn, 1) := by decide +kernel
theorem dX7_row_0 : decode cX7_row 0 = .ok (.aload_n 0, 1) := by decide +kernel
theorem dX7_row_1 : decode cX7_row 1 = .ok (.iload_n 1, 1) := by decide +kernel
theorem dX7_row_2 : decode cX7_row 2 = .ok (.invokevirtual 94, 3) := by decide +kernel
theorem dX7_row_5 : decode cX7_row 5 = .ok (.ifCond .eq 12, 3) := by decide +kernel
theorem dX7_row_8 : decode cX7_row 8 = .ok (.iload_n 2, 1) := by decide +kernel
theorem dX7_row_9 : decode cX7_row 9 = .ok (.iconst 0, 1) := by decide +kernel
theorem dX7_row_10 : decode cX7_row 10 = .ok (.iconst 3, 1) := by decide +kernel
theorem dX7_row_11 : decode cX7_row 11 = .ok (.invokestatic 74, 3) := by decide +kernel
theorem dX7_row_14 : decode cX7_row 14 = .ok (.ifCond .ne 5, 3) := by decide +kernel
theorem dX7_row_17 : decode cX7_row 17 = .ok (.iconst (-1), 1) := by decide +kernel
theorem dX7_row_18 : decode cX7_row 18 = .ok (.ireturn, 1) := by decide +kernel
theorem dX7_row_19 : decode cX7_row 19 = .ok (.iload_n 3, 1) := by decide +kernel
theorem dX7_row_20 : decode cX7_row 20 = .ok (.iconst 0, 1) := by decide +kernel
theorem dX7_row_21 : decode cX7_row 21 = .ok (.bipush 9, 2) := by decide +kernel
theorem dX7_row_23 : decode cX7_row 23 = .ok (.invokestatic 74, 3) := by decide +kernel
theorem dX7_row_26 : decode cX7_row 26 = .ok (.ifCond .ne 6, 3) := by decide +kernel
theorem dX7_row_29 : decode cX7_row 29 = .ok (.bipush (-2), 2) := by decide +kernel
theorem dX7_row_31 : decode cX7_row 31 = .ok (.ireturn, 1) := by decide +kernel
theorem dX7_row_32 : decode cX7_row 32 = .ok (.aload_n 0, 1) := by decide +kernel
theorem dX7_row_33 : decode cX7_row 33 = .ok (.getfield 23, 3) := by decide +kernel
theorem dX7_row_36 : decode cX7_row 36 = .ok (.getfield 84, 3) := by decide +kernel
theorem dX7_row_39 : decode cX7_row 39 = .ok (.iload_n 1, 1) := by decide +kernel
theorem dX7_row_40 : decode cX7_row 40 = .ok (.aaload, 1) := by decide +kernel
theorem dX7_row_41 : decode cX7_row 41 = .ok (.astore 4, 2) := by decide +kernel
theorem dX7_row_43 : decode cX7_row 43 = .ok (.aload 4, 2) := by decide +kernel
theorem dX7_row_45 : decode cX7_row 45 = .ok (.getfield 97, 3) := by decide +kernel
theorem dX7_row_48 : decode cX7_row 48 = .ok (.bipush 6, 2) := by decide +kernel
theorem dX7_row_50 : decode cX7_row 50 = .ok (.if_icmp .eq 6, 3) := by decide +kernel
theorem dX7_row_53 : decode cX7_row 53 = .ok (.bipush (-3), 2) := by decide +kernel
theorem dX7_row_55 : decode cX7_row 55 = .ok (.ireturn, 1) := by decide +kernel
theorem dX7_row_56 : decode cX7_row 56 = .ok (.aload 4, 2) := by decide +kernel
theorem dX7_row_58 : decode cX7_row 58 = .ok (.getfield 128, 3) := by decide +kernel
theorem dX7_row_61 : decode cX7_row 61 = .ok (.iload_n 2, 1) := by decide +kernel
theorem dX7_row_62 : decode cX7_row 62 = .ok (.iaload, 1) := by decide +kernel
theorem dX7_row_63 : decode cX7_row 63 = .ok (.istore 5, 2) := by decide +kernel
theorem dX7_row_65 : decode cX7_row 65 = .ok (.aload 4, 2) := by decide +kernel
theorem dX7_row_67 : decode cX7_row 67 = .ok (.getfield 128, 3) := by decide +kernel
theorem dX7_row_70 : decode cX7_row 70 = .ok (.iload_n 2, 1) := by decide +kernel
theorem dX7_row_71 : decode cX7_row 71 = .ok (.iload_n 3, 1) := by decide +kernel
theorem dX7_row_72 : decode cX7_row 72 = .ok (.iastore, 1) := by decide +kernel
theorem dX7_row_73 : decode cX7_row 73 = .ok (.iload 5, 2) := by decide +kernel
theorem dX7_row_75 : decode cX7_row 75 = .ok (.ireturn, 1) := by decide +kernel
theorem dX7_feed_0 : decode cX7_feed 0 = .ok (.iload_n 1, 1) := by decide +kernel
theorem dX7_feed_1 : decode cX7_feed 1 = .ok (.iconst 0, 1) := by decide +kernel
theorem dX7_feed_2 : decode cX7_feed 2 = .ok (.bipush 127, 2) := by decide +kernel
theorem dX7_feed_4 : decode cX7_feed 4 = .ok (.invokestatic 74, 3) := by decide +kernel
theorem dX7_feed_7 : decode cX7_feed 7 = .ok (.ifCond .ne 6, 3) := by decide +kernel
theorem dX7_feed_10 : decode cX7_feed 10 = .ok (.bipush (-2), 2) := by decide +kernel
theorem dX7_feed_12 : decode cX7_feed 12 = .ok (.ireturn, 1) := by decide +kernel
theorem dX7_feed_13 : decode cX7_feed 13 = .ok (.aload_n 0, 1) := by decide +kernel
theorem dX7_feed_14 : decode cX7_feed 14 = .ok (.getfield 40, 3) := by decide +kernel
theorem dX7_feed_17 : decode cX7_feed 17 = .ok (.getfield 131, 3) := by decide +kernel
theorem dX7_feed_20 : decode cX7_feed 20 = .ok (.bipush 100, 2) := by decide +kernel
theorem dX7_feed_22 : decode cX7_feed 22 = .ok (.if_icmp .lt 6, 3) := by decide +kernel
theorem dX7_feed_25 : decode cX7_feed 25 = .ok (.bipush (-4), 2) := by decide +kernel
theorem dX7_feed_27 : decode cX7_feed 27 = .ok (.ireturn, 1) := by decide +kernel
theorem dX7_feed_28 : decode cX7_feed 28 = .ok (.aload_n 0, 1) := by decide +kernel
theorem dX7_feed_29 : decode cX7_feed 29 = .ok (.getfield 40, 3) := by decide +kernel
theorem dX7_feed_32 : decode cX7_feed 32 = .ok (.getfield 134, 3) := by decide +kernel
theorem dX7_feed_35 : decode cX7_feed 35 = .ok (.aload_n 0, 1) := by decide +kernel
theorem dX7_feed_36 : decode cX7_feed 36 = .ok (.getfield 40, 3) := by decide +kernel
theorem dX7_feed_39 : decode cX7_feed 39 = .ok (.getfield 131, 3) := by decide +kernel
theorem dX7_feed_42 : decode cX7_feed 42 = .ok (.iload_n 1, 1) := by decide +kernel
theorem dX7_feed_43 : decode cX7_feed 43 = .ok (.i2b, 1) := by decide +kernel
theorem dX7_feed_44 : decode cX7_feed 44 = .ok (.bastore, 1) := by decide +kernel
theorem dX7_feed_45 : decode cX7_feed 45 = .ok (.aload_n 0, 1) := by decide +kernel
theorem dX7_feed_46 : decode cX7_feed 46 = .ok (.getfield 40, 3) := by decide +kernel
theorem dX7_feed_49 : decode cX7_feed 49 = .ok (.dup, 1) := by decide +kernel
theorem dX7_feed_50 : decode cX7_feed 50 = .ok (.getfield 131, 3) := by decide +kernel
theorem dX7_feed_53 : decode cX7_feed 53 = .ok (.iconst 1, 1) := by decide +kernel
theorem dX7_feed_54 : decode cX7_feed 54 = .ok (.iadd, 1) := by decide +kernel
theorem dX7_feed_55 : decode cX7_feed 55 = .ok (.putfield 131, 3) := by decide +kernel
theorem dX7_feed_58 : decode cX7_feed 58 = .ok (.aload_n 0, 1) := by decide +kernel
theorem dX7_feed_59 : decode cX7_feed 59 = .ok (.getfield 40, 3) := by decide +kernel
theorem dX7_feed_62 : decode cX7_feed 62 = .ok (.getfield 131, 3) := by decide +kernel
theorem dX7_feed_65 : decode cX7_feed 65 = .ok (.ireturn, 1) := by decide +kernel
theorem dX7_air_0 : decode cX7_air 0 = .ok (.aload_n 0, 1) := by decide +kernel
theorem dX7_air_1 : decode cX7_air 1 = .ok (.getfield 58, 3) := by decide +kernel
theorem dX7_air_4 : decode cX7_air 4 = .ok (.bipush 6, 2) := by decide +kernel
theorem dX7_air_6 : decode cX7_air 6 = .ok (.if_icmp .lt 6, 3) := by decide +kernel
theorem dX7_air_9 : decode cX7_air 9 = .ok (.bipush (-4), 2) := by decide +kernel
theorem dX7_air_11 : decode cX7_air 11 = .ok (.ireturn, 1) := by decide +kernel
theorem dX7_air_12 : decode cX7_air 12 = .ok (.aload_n 0, 1) := by decide +kernel
theorem dX7_air_13 : decode cX7_air 13 = .ok (.getfield 44, 3) := by decide +kernel
theorem dX7_air_16 : decode cX7_air 16 = .ok (.aload_n 0, 1) := by decide +kernel
theorem dX7_air_17 : decode cX7_air 17 = .ok (.getfield 58, 3) := by decide +kernel
theorem dX7_air_20 : decode cX7_air 20 = .ok (.aaload, 1) := by decide +kernel
theorem dX7_air_21 : decode cX7_air 21 = .ok (.ifnonnull 19, 3) := by decide +kernel
theorem dX7_air_24 : decode cX7_air 24 = .ok (.aload_n 0, 1) := by decide +kernel
theorem dX7_air_25 : decode cX7_air 25 = .ok (.getfield 44, 3) := by decide +kernel
theorem dX7_air_28 : decode cX7_air 28 = .ok (.aload_n 0, 1) := by decide +kernel
theorem dX7_air_29 : decode cX7_air 29 = .ok (.getfield 58, 3) := by decide +kernel
theorem dX7_air_32 : decode cX7_air 32 = .ok (.new 9, 3) := by decide +kernel
theorem dX7_air_35 : decode cX7_air 35 = .ok (.dup, 1) := by decide +kernel
theorem dX7_air_36 : decode cX7_air 36 = .ok (.invokespecial 11, 3) := by decide +kernel
theorem dX7_air_39 : decode cX7_air 39 = .ok (.aastore, 1) := by decide +kernel
theorem dX7_air_40 : decode cX7_air 40 = .ok (.aload_n 0, 1) := by decide +kernel
theorem dX7_air_41 : decode cX7_air 41 = .ok (.getfield 44, 3) := by decide +kernel
theorem dX7_air_44 : decode cX7_air 44 = .ok (.aload_n 0, 1) := by decide +kernel
theorem dX7_air_45 : decode cX7_air 45 = .ok (.getfield 58, 3) := by decide +kernel
theorem dX7_air_48 : decode cX7_air 48 = .ok (.aaload, 1) := by decide +kernel
theorem dX7_air_49 : decode cX7_air 49 = .ok (.astore_n 1, 1) := by decide +kernel
theorem dX7_air_50 : decode cX7_air 50 = .ok (.aload_n 0, 1) := by decide +kernel
theorem dX7_air_51 : decode cX7_air 51 = .ok (.getfield 40, 3) := by decide +kernel
theorem dX7_air_54 : decode cX7_air 54 = .ok (.aload_n 1, 1) := by decide +kernel
theorem dX7_air_55 : decode cX7_air 55 = .ok (.invokevirtual 138, 3) := by decide +kernel
theorem dX7_air_58 : decode cX7_air 58 = .ok (.istore_n 2, 1) := by decide +kernel
theorem dX7_air_59 : decode cX7_air 59 = .ok (.aload_n 0, 1) := by decide +kernel
theorem dX7_air_60 : decode cX7_air 60 = .ok (.getfield 40, 3) := by decide +kernel
theorem dX7_air_63 : decode cX7_air 63 = .ok (.iconst 0, 1) := by decide +kernel
theorem dX7_air_64 : decode cX7_air 64 = .ok (.putfield 131, 3) := by decide +kernel
theorem dX7_air_67 : decode cX7_air 67 = .ok (.iload_n 2, 1) := by decide +kernel
theorem dX7_air_68 : decode cX7_air 68 = .ok (.ifCond .ne 14, 3) := by decide +kernel
theorem dX7_air_71 : decode cX7_air 71 = .ok (.bipush (-10), 2) := by decide +kernel
theorem dX7_air_73 : decode cX7_air 73 = .ok (.aload_n 0, 1) := by decide +kernel
theorem dX7_air_74 : decode cX7_air 74 = .ok (.getfield 40, 3) := by decide +kernel
theorem dX7_air_77 : decode cX7_air 77 = .ok (.getfield 142, 3) := by decide +kernel
theorem dX7_air_80 : decode cX7_air 80 = .ok (.isub, 1) := by decide +kernel
theorem dX7_air_81 : decode cX7_air 81 = .ok (.ireturn, 1) := by decide +kernel
theorem dX7_air_82 : decode cX7_air 82 = .ok (.aload_n 0, 1) := by decide +kernel
theorem dX7_air_83 : decode cX7_air 83 = .ok (.getfield 23, 3) := by decide +kernel
theorem dX7_air_86 : decode cX7_air 86 = .ok (.aload_n 1, 1) := by decide +kernel
theorem dX7_air_87 : decode cX7_air 87 = .ok (.putfield 109, 3) := by decide +kernel
theorem dX7_air_90 : decode cX7_air 90 = .ok (.aload_n 0, 1) := by decide +kernel
theorem dX7_air_91 : decode cX7_air 91 = .ok (.dup, 1) := by decide +kernel
theorem dX7_air_92 : decode cX7_air 92 = .ok (.getfield 58, 3) := by decide +kernel
theorem dX7_air_95 : decode cX7_air 95 = .ok (.iconst 1, 1) := by decide +kernel
theorem dX7_air_96 : decode cX7_air 96 = .ok (.iadd, 1) := by decide +kernel
theorem dX7_air_97 : decode cX7_air 97 = .ok (.putfield 58, 3) := by decide +kernel
theorem dX7_air_100 : decode cX7_air 100 = .ok (.aload_n 0, 1) := by decide +kernel
theorem dX7_air_101 : decode cX7_air 101 = .ok (.getfield 58, 3) := by decide +kernel
theorem dX7_air_104 : decode cX7_air 104 = .ok (.iconst 1, 1) := by decide +kernel
theorem dX7_air_105 : decode cX7_air 105 = .ok (.isub, 1) := by decide +kernel
theorem dX7_air_106 : decode cX7_air 106 = .ok (.ireturn, 1) := by decide +kernel
theorem dX7_home_0 : decode cX7_home 0 = .ok (.iload_n 1, 1) := by decide +kernel
theorem dX7_home_1 : decode cX7_home 1 = .ok (.invokestatic 78, 3) := by decide +kernel
theorem dX7_home_4 : decode cX7_home 4 = .ok (.ifCond .ne 6, 3) := by decide +kernel
theorem dX7_home_7 : decode cX7_home 7 = .ok (.bipush (-2), 2) := by decide +kernel
theorem dX7_home_9 : decode cX7_home 9 = .ok (.ireturn, 1) := by decide +kernel
theorem dX7_home_10 : decode cX7_home 10 = .ok (.aload_n 0, 1) := by decide +kernel
theorem dX7_home_11 : decode cX7_home 11 = .ok (.getfield 23, 3) := by decide +kernel
theorem dX7_home_14 : decode cX7_home 14 = .ok (.getfield 145, 3) := by decide +kernel
theorem dX7_home_17 : decode cX7_home 17 = .ok (.istore_n 2, 1) := by decide +kernel
theorem dX7_home_18 : decode cX7_home 18 = .ok (.aload_n 0, 1) := by decide +kernel
theorem dX7_home_19 : decode cX7_home 19 = .ok (.getfield 23, 3) := by decide +kernel
theorem dX7_home_22 : decode cX7_home 22 = .ok (.iload_n 1, 1) := by decide +kernel
theorem dX7_home_23 : decode cX7_home 23 = .ok (.putfield 145, 3) := by decide +kernel
theorem dX7_home_26 : decode cX7_home 26 = .ok (.iload_n 2, 1) := by decide +kernel
theorem dX7_home_27 : decode cX7_home 27 = .ok (.ireturn, 1) := by decide +kernel
theorem dX7_height_0 : decode cX7_height 0 = .ok (.iload_n 1, 1) := by decide +kernel
theorem dX7_height_1 : decode cX7_height 1 = .ok (.iconst 0, 1) := by decide +kernel
theorem dX7_height_2 : decode cX7_height 2 = .ok (.sipush 400, 3) := by decide +kernel
theorem dX7_height_5 : decode cX7_height 5 = .ok (.invokestatic 74, 3) := by decide +kernel
theorem dX7_height_8 : decode cX7_height 8 = .ok (.ifCond .ne 6, 3) := by decide +kernel
theorem dX7_height_11 : decode cX7_height 11 = .ok (.bipush (-2), 2) := by decide +kernel
theorem dX7_height_13 : decode cX7_height 13 = .ok (.ireturn, 1) := by decide +kernel
theorem dX7_height_14 : decode cX7_height 14 = .ok (.aload_n 0, 1) := by decide +kernel
theorem dX7_height_15 : decode cX7_height 15 = .ok (.getfield 23, 3) := by decide +kernel
theorem dX7_height_18 : decode cX7_height 18 = .ok (.getfield 112, 3) := by decide +kernel
theorem dX7_height_21 : decode cX7_height 21 = .ok (.getfield 115, 3) := by decide +kernel
theorem dX7_height_24 : decode cX7_height 24 = .ok (.istore_n 2, 1) := by decide +kernel
theorem dX7_height_25 : decode cX7_height 25 = .ok (.aload_n 0, 1) := by decide +kernel
theorem dX7_height_26 : decode cX7_height 26 = .ok (.getfield 23, 3) := by decide +kernel
theorem dX7_height_29 : decode cX7_height 29 = .ok (.getfield 112, 3) := by decide +kernel
theorem dX7_height_32 : decode cX7_height 32 = .ok (.iload_n 1, 1) := by decide +kernel
theorem dX7_height_33 : decode cX7_height 33 = .ok (.putfield 115, 3) := by decide +kernel
theorem dX7_height_36 : decode cX7_height 36 = .ok (.iload_n 2, 1) := by decide +kernel
theorem dX7_height_37 : decode cX7_height 37 = .ok (.ireturn, 1) := by decide +kernel
theorem dX7_told_0 : decode cX7_told 0 = .ok (.iload_n 1, 1) := by decide +kernel
theorem dX7_told_1 : decode cX7_told 1 = .ok (.tableswitch 114 0 6 #[43, 54, 65, 76, 84, 92, 103], 43) := by decide +kernel
theorem dX7_told_44 : decode cX7_told 44 = .ok (.aload_n 0, 1) := by decide +kernel
theorem dX7_told_45 : decode cX7_told 45 = .ok (.getfield 23, 3) := by decide +kernel
theorem dX7_told_48 : decode cX7_told 48 = .ok (.getfield 112, 3) := by decide +kernel
theorem dX7_told_51 : decode cX7_told 51 = .ok (.getfield 118, 3) := by decide +kernel
theorem dX7_told_54 : decode cX7_told 54 = .ok (.ireturn, 1) := by decide +kernel
theorem dX7_told_55 : decode cX7_told 55 = .ok (.aload_n 0, 1) := by decide +kernel
theorem dX7_told_56 : decode cX7_told 56 = .ok (.getfield 23, 3) := by decide +kernel
theorem dX7_told_59 : decode cX7_told 59 = .ok (.getfield 112, 3) := by decide +kernel
theorem dX7_told_62 : decode cX7_told 62 = .ok (.getfield 148, 3) := by decide +kernel
theorem dX7_told_65 : decode cX7_told 65 = .ok (.ireturn, 1) := by decide +kernel
theorem dX7_told_66 : decode cX7_told 66 = .ok (.aload_n 0, 1) := by decide +kernel
theorem dX7_told_67 : decode cX7_told 67 = .ok (.getfield 23, 3) := by decide +kernel
theorem dX7_told_70 : decode cX7_told 70 = .ok (.getfield 112, 3) := by decide +kernel
theorem dX7_told_73 : decode cX7_told 73 = .ok (.getfield 115, 3) := by decide +kernel
theorem dX7_told_76 : decode cX7_told 76 = .ok (.ireturn, 1) := by decide +kernel
theorem dX7_told_77 : decode cX7_told 77 = .ok (.aload_n 0, 1) := by decide +kernel
theorem dX7_told_78 : decode cX7_told 78 = .ok (.getfield 23, 3) := by decide +kernel
theorem dX7_told_81 : decode cX7_told 81 = .ok (.getfield 149, 3) := by decide +kernel
theorem dX7_told_84 : decode cX7_told 84 = .ok (.ireturn, 1) := by decide +kernel
theorem dX7_told_85 : decode cX7_told 85 = .ok (.aload_n 0, 1) := by decide +kernel
theorem dX7_told_86 : decode cX7_told 86 = .ok (.getfield 23, 3) := by decide +kernel
theorem dX7_told_89 : decode cX7_told 89 = .ok (.getfield 145, 3) := by decide +kernel
theorem dX7_told_92 : decode cX7_told 92 = .ok (.ireturn, 1) := by decide +kernel
theorem dX7_told_93 : decode cX7_told 93 = .ok (.aload_n 0, 1) := by decide +kernel
theorem dX7_told_94 : decode cX7_told 94 = .ok (.getfield 23, 3) := by decide +kernel
theorem dX7_told_97 : decode cX7_told 97 = .ok (.getfield 109, 3) := by decide +kernel
theorem dX7_told_100 : decode cX7_told 100 = .ok (.getfield 152, 3) := by decide +kernel
theorem dX7_told_103 : decode cX7_told 103 = .ok (.ireturn, 1) := by decide +kernel
theorem dX7_told_104 : decode cX7_told 104 = .ok (.aload_n 0, 1) := by decide +kernel
theorem dX7_told_105 : decode cX7_told 105 = .ok (.getfield 23, 3) := by decide +kernel
theorem dX7_told_108 : decode cX7_told 108 = .ok (.getfield 109, 3) := by decide +kernel
theorem dX7_told_111 : decode cX7_told 111 = .ok (.getfield 155, 3) := by decide +kernel
theorem dX7_told_114 : decode cX7_told 114 = .ok (.ireturn, 1) := by decide +kernel
theorem dX7_told_115 : decode cX7_told 115 = .ok (.iconst (-1), 1) := by decide +kernel
theorem dX7_told_116 : decode cX7_told 116 = .ok (.ireturn, 1) := by decide +kernel
theorem dX7_enter_0 : decode cX7_enter 0 = .ok (.aload_n 0, 1) := by decide +kernel
theorem dX7_enter_1 : decode cX7_enter 1 = .ok (.iload_n 1, 1) := by decide +kernel
theorem dX7_enter_2 : decode cX7_enter 2 = .ok (.invokevirtual 94, 3) := by decide +kernel
theorem dX7_enter_5 : decode cX7_enter 5 = .ok (.ifCond .ne 7, 3) := by decide +kernel
theorem dX7_enter_8 : decode cX7_enter 8 = .ok (.sipush (-1001), 3) := by decide +kernel
theorem dX7_enter_11 : decode cX7_enter 11 = .ok (.ireturn, 1) := by decide +kernel
theorem dX7_enter_12 : decode cX7_enter 12 = .ok (.aload_n 0, 1) := by decide +kernel
theorem dX7_enter_13 : decode cX7_enter 13 = .ok (.getfield 23, 3) := by decide +kernel
theorem dX7_enter_16 : decode cX7_enter 16 = .ok (.getfield 84, 3) := by decide +kernel
theorem dX7_enter_19 : decode cX7_enter 19 = .ok (.iload_n 1, 1) := by decide +kernel
theorem dX7_enter_20 : decode cX7_enter 20 = .ok (.aaload, 1) := by decide +kernel
theorem dX7_enter_21 : decode cX7_enter 21 = .ok (.astore_n 2, 1) := by decide +kernel
theorem dX7_enter_22 : decode cX7_enter 22 = .ok (.aload_n 2, 1) := by decide +kernel
theorem dX7_enter_23 : decode cX7_enter 23 = .ok (.getfield 103, 3) := by decide +kernel
theorem dX7_enter_26 : decode cX7_enter 26 = .ok (.aload_n 0, 1) := by decide +kernel
theorem dX7_enter_27 : decode cX7_enter 27 = .ok (.getfield 23, 3) := by decide +kernel
theorem dX7_enter_30 : decode cX7_enter 30 = .ok (.getfield 112, 3) := by decide +kernel
theorem dX7_enter_33 : decode cX7_enter 33 = .ok (.getfield 148, 3) := by decide +kernel
theorem dX7_enter_36 : decode cX7_enter 36 = .ok (.if_icmp .eq 7, 3) := by decide +kernel
theorem dX7_enter_39 : decode cX7_enter 39 = .ok (.sipush (-1002), 3) := by decide +kernel
theorem dX7_enter_42 : decode cX7_enter 42 = .ok (.ireturn, 1) := by decide +kernel
theorem dX7_enter_43 : decode cX7_enter 43 = .ok (.aload_n 0, 1) := by decide +kernel
theorem dX7_enter_44 : decode cX7_enter 44 = .ok (.getfield 23, 3) := by decide +kernel
theorem dX7_enter_47 : decode cX7_enter 47 = .ok (.iload_n 1, 1) := by decide +kernel
theorem dX7_enter_48 : decode cX7_enter 48 = .ok (.putfield 149, 3) := by decide +kernel
theorem dX7_enter_51 : decode cX7_enter 51 = .ok (.aload_n 2, 1) := by decide +kernel
theorem dX7_enter_52 : decode cX7_enter 52 = .ok (.aload_n 0, 1) := by decide +kernel
theorem dX7_enter_53 : decode cX7_enter 53 = .ok (.getfield 23, 3) := by decide +kernel
theorem dX7_enter_56 : decode cX7_enter 56 = .ok (.getfield 109, 3) := by decide +kernel
theorem dX7_enter_59 : decode cX7_enter 59 = .ok (.aload_n 0, 1) := by decide +kernel
theorem dX7_enter_60 : decode cX7_enter 60 = .ok (.getfield 23, 3) := by decide +kernel
theorem dX7_enter_63 : decode cX7_enter 63 = .ok (.getfield 112, 3) := by decide +kernel
theorem dX7_enter_66 : decode cX7_enter 66 = .ok (.getfield 115, 3) := by decide +kernel
theorem dX7_enter_69 : decode cX7_enter 69 = .ok (.aload_n 0, 1) := by decide +kernel
theorem dX7_enter_70 : decode cX7_enter 70 = .ok (.getfield 23, 3) := by decide +kernel
theorem dX7_enter_73 : decode cX7_enter 73 = .ok (.getfield 112, 3) := by decide +kernel
theorem dX7_enter_76 : decode cX7_enter 76 = .ok (.getfield 118, 3) := by decide +kernel
theorem dX7_enter_79 : decode cX7_enter 79 = .ok (.invokevirtual 125, 3) := by decide +kernel
theorem dX7_enter_82 : decode cX7_enter 82 = .ok (.ireturn, 1) := by decide +kernel
theorem dX7_turn_0 : decode cX7_turn 0 = .ok (.iload_n 1, 1) := by decide +kernel
theorem dX7_turn_1 : decode cX7_turn 1 = .ok (.iconst 0, 1) := by decide +kernel
theorem dX7_turn_2 : decode cX7_turn 2 = .ok (.bipush 60, 2) := by decide +kernel
theorem dX7_turn_4 : decode cX7_turn 4 = .ok (.invokestatic 74, 3) := by decide +kernel
theorem dX7_turn_7 : decode cX7_turn 7 = .ok (.ifCond .ne 6, 3) := by decide +kernel
theorem dX7_turn_10 : decode cX7_turn 10 = .ok (.bipush (-2), 2) := by decide +kernel
theorem dX7_turn_12 : decode cX7_turn 12 = .ok (.ireturn, 1) := by decide +kernel
theorem dX7_turn_13 : decode cX7_turn 13 = .ok (.aload_n 0, 1) := by decide +kernel
theorem dX7_turn_14 : decode cX7_turn 14 = .ok (.aload_n 0, 1) := by decide +kernel
theorem dX7_turn_15 : decode cX7_turn 15 = .ok (.getfield 23, 3) := by decide +kernel
theorem dX7_turn_18 : decode cX7_turn 18 = .ok (.getfield 149, 3) := by decide +kernel
theorem dX7_turn_21 : decode cX7_turn 21 = .ok (.invokevirtual 94, 3) := by decide +kernel
theorem dX7_turn_24 : decode cX7_turn 24 = .ok (.ifCond .eq 21, 3) := by decide +kernel
theorem dX7_turn_27 : decode cX7_turn 27 = .ok (.aload_n 0, 1) := by decide +kernel
theorem dX7_turn_28 : decode cX7_turn 28 = .ok (.getfield 23, 3) := by decide +kernel
theorem dX7_turn_31 : decode cX7_turn 31 = .ok (.getfield 112, 3) := by decide +kernel
theorem dX7_turn_34 : decode cX7_turn 34 = .ok (.getfield 118, 3) := by decide +kernel
theorem dX7_turn_37 : decode cX7_turn 37 = .ok (.iload_n 1, 1) := by decide +kernel
theorem dX7_turn_38 : decode cX7_turn 38 = .ok (.iadd, 1) := by decide +kernel
theorem dX7_turn_39 : decode cX7_turn 39 = .ok (.sipush 9999, 3) := by decide +kernel
theorem dX7_turn_42 : decode cX7_turn 42 = .ok (.if_icmp .le 6, 3) := by decide +kernel
theorem dX7_turn_45 : decode cX7_turn 45 = .ok (.bipush (-3), 2) := by decide +kernel
theorem dX7_turn_47 : decode cX7_turn 47 = .ok (.ireturn, 1) := by decide +kernel
theorem dX7_turn_48 : decode cX7_turn 48 = .ok (.aload_n 0, 1) := by decide +kernel
theorem dX7_turn_49 : decode cX7_turn 49 = .ok (.getfield 23, 3) := by decide +kernel
theorem dX7_turn_52 : decode cX7_turn 52 = .ok (.getfield 112, 3) := by decide +kernel
theorem dX7_turn_55 : decode cX7_turn 55 = .ok (.aload_n 0, 1) := by decide +kernel
theorem dX7_turn_56 : decode cX7_turn 56 = .ok (.getfield 23, 3) := by decide +kernel
theorem dX7_turn_59 : decode cX7_turn 59 = .ok (.getfield 84, 3) := by decide +kernel
theorem dX7_turn_62 : decode cX7_turn 62 = .ok (.aload_n 0, 1) := by decide +kernel
theorem dX7_turn_63 : decode cX7_turn 63 = .ok (.getfield 23, 3) := by decide +kernel
theorem dX7_turn_66 : decode cX7_turn 66 = .ok (.getfield 149, 3) := by decide +kernel
theorem dX7_turn_69 : decode cX7_turn 69 = .ok (.aaload, 1) := by decide +kernel
theorem dX7_turn_70 : decode cX7_turn 70 = .ok (.aload_n 0, 1) := by decide +kernel
theorem dX7_turn_71 : decode cX7_turn 71 = .ok (.getfield 23, 3) := by decide +kernel
theorem dX7_turn_74 : decode cX7_turn 74 = .ok (.getfield 109, 3) := by decide +kernel
theorem dX7_turn_77 : decode cX7_turn 77 = .ok (.iload_n 1, 1) := by decide +kernel
theorem dX7_turn_78 : decode cX7_turn 78 = .ok (.invokevirtual 158, 3) := by decide +kernel
theorem dX7_turn_81 : decode cX7_turn 81 = .ok (.aload_n 0, 1) := by decide +kernel
theorem dX7_turn_82 : decode cX7_turn 82 = .ok (.getfield 23, 3) := by decide +kernel
theorem dX7_turn_85 : decode cX7_turn 85 = .ok (.getfield 112, 3) := by decide +kernel
theorem dX7_turn_88 : decode cX7_turn 88 = .ok (.getfield 115, 3) := by decide +kernel
theorem dX7_turn_91 : decode cX7_turn 91 = .ok (.ireturn, 1) := by decide +kernel
theorem dX7_glide_0 : decode cX7_glide 0 = .ok (.iload_n 1, 1) := by decide +kernel
theorem dX7_glide_1 : decode cX7_glide 1 = .ok (.invokestatic 78, 3) := by decide +kernel
theorem dX7_glide_4 : decode cX7_glide 4 = .ok (.ifCond .eq 10, 3) := by decide +kernel
theorem dX7_glide_7 : decode cX7_glide 7 = .ok (.iload_n 2, 1) := by decide +kernel
theorem dX7_glide_8 : decode cX7_glide 8 = .ok (.invokestatic 162, 3) := by decide +kernel
theorem dX7_glide_11 : decode cX7_glide 11 = .ok (.ifCond .ne 6, 3) := by decide +kernel
theorem dX7_glide_14 : decode cX7_glide 14 = .ok (.bipush (-2), 2) := by decide +kernel
theorem dX7_glide_16 : decode cX7_glide 16 = .ok (.ireturn, 1) := by decide +kernel
theorem dX7_glide_17 : decode cX7_glide 17 = .ok (.aload_n 0, 1) := by decide +kernel
theorem dX7_glide_18 : decode cX7_glide 18 = .ok (.getfield 33, 3) := by decide +kernel
theorem dX7_glide_21 : decode cX7_glide 21 = .ok (.aload_n 0, 1) := by decide +kernel
theorem dX7_glide_22 : decode cX7_glide 22 = .ok (.getfield 23, 3) := by decide +kernel
theorem dX7_glide_25 : decode cX7_glide 25 = .ok (.getfield 112, 3) := by decide +kernel
theorem dX7_glide_28 : decode cX7_glide 28 = .ok (.invokevirtual 165, 3) := by decide +kernel
theorem dX7_glide_31 : decode cX7_glide 31 = .ok (.aload_n 0, 1) := by decide +kernel
theorem dX7_glide_32 : decode cX7_glide 32 = .ok (.getfield 33, 3) := by decide +kernel
theorem dX7_glide_35 : decode cX7_glide 35 = .ok (.iload_n 1, 1) := by decide +kernel
theorem dX7_glide_36 : decode cX7_glide 36 = .ok (.iload_n 2, 1) := by decide +kernel
theorem dX7_glide_37 : decode cX7_glide 37 = .ok (.invokevirtual 169, 3) := by decide +kernel
theorem dX7_glide_40 : decode cX7_glide 40 = .ok (.ifCond .eq 16, 3) := by decide +kernel
theorem dX7_glide_43 : decode cX7_glide 43 = .ok (.aload_n 0, 1) := by decide +kernel
theorem dX7_glide_44 : decode cX7_glide 44 = .ok (.getfield 33, 3) := by decide +kernel
theorem dX7_glide_47 : decode cX7_glide 47 = .ok (.getfield 118, 3) := by decide +kernel
theorem dX7_glide_50 : decode cX7_glide 50 = .ok (.sipush 9999, 3) := by decide +kernel
theorem dX7_glide_53 : decode cX7_glide 53 = .ok (.if_icmp .le 6, 3) := by decide +kernel
theorem dX7_glide_56 : decode cX7_glide 56 = .ok (.bipush (-3), 2) := by decide +kernel
theorem dX7_glide_58 : decode cX7_glide 58 = .ok (.ireturn, 1) := by decide +kernel
theorem dX7_glide_59 : decode cX7_glide 59 = .ok (.aload_n 0, 1) := by decide +kernel
theorem dX7_glide_60 : decode cX7_glide 60 = .ok (.getfield 23, 3) := by decide +kernel
theorem dX7_glide_63 : decode cX7_glide 63 = .ok (.getfield 112, 3) := by decide +kernel
theorem dX7_glide_66 : decode cX7_glide 66 = .ok (.aload_n 0, 1) := by decide +kernel
theorem dX7_glide_67 : decode cX7_glide 67 = .ok (.getfield 33, 3) := by decide +kernel
theorem dX7_glide_70 : decode cX7_glide 70 = .ok (.invokevirtual 165, 3) := by decide +kernel
theorem dX7_glide_73 : decode cX7_glide 73 = .ok (.aload_n 0, 1) := by decide +kernel
theorem dX7_glide_74 : decode cX7_glide 74 = .ok (.getfield 23, 3) := by decide +kernel
theorem dX7_glide_77 : decode cX7_glide 77 = .ok (.bipush (-5), 2) := by decide +kernel
theorem dX7_glide_79 : decode cX7_glide 79 = .ok (.putfield 149, 3) := by decide +kernel
theorem dX7_glide_82 : decode cX7_glide 82 = .ok (.aload_n 0, 1) := by decide +kernel
theorem dX7_glide_83 : decode cX7_glide 83 = .ok (.getfield 23, 3) := by decide +kernel
theorem dX7_glide_86 : decode cX7_glide 86 = .ok (.getfield 112, 3) := by decide +kernel
theorem dX7_glide_89 : decode cX7_glide 89 = .ok (.getfield 115, 3) := by decide +kernel
theorem dX7_glide_92 : decode cX7_glide 92 = .ok (.ireturn, 1) := by decide +kernel
theorem dX7_up_0 : decode cX7_up 0 = .ok (.aload_n 0, 1) := by decide +kernel
theorem dX7_up_1 : decode cX7_up 1 = .ok (.iload_n 1, 1) := by decide +kernel
theorem dX7_up_2 : decode cX7_up 2 = .ok (.invokevirtual 94, 3) := by decide +kernel
theorem dX7_up_5 : decode cX7_up 5 = .ok (.ifCond .ne 5, 3) := by decide +kernel
theorem dX7_up_8 : decode cX7_up 8 = .ok (.iconst (-1), 1) := by decide +kernel
theorem dX7_up_9 : decode cX7_up 9 = .ok (.ireturn, 1) := by decide +kernel
theorem dX7_up_10 : decode cX7_up 10 = .ok (.iload_n 2, 1) := by decide +kernel
theorem dX7_up_11 : decode cX7_up 11 = .ok (.iconst 0, 1) := by decide +kernel
theorem dX7_up_12 : decode cX7_up 12 = .ok (.bipush 60, 2) := by decide +kernel
theorem dX7_up_14 : decode cX7_up 14 = .ok (.invokestatic 74, 3) := by decide +kernel
theorem dX7_up_17 : decode cX7_up 17 = .ok (.ifCond .ne 6, 3) := by decide +kernel
theorem dX7_up_20 : decode cX7_up 20 = .ok (.bipush (-2), 2) := by decide +kernel
theorem dX7_up_22 : decode cX7_up 22 = .ok (.ireturn, 1) := by decide +kernel
theorem dX7_up_23 : decode cX7_up 23 = .ok (.aload_n 0, 1) := by decide +kernel
theorem dX7_up_24 : decode cX7_up 24 = .ok (.iload_n 1, 1) := by decide +kernel
theorem dX7_up_25 : decode cX7_up 25 = .ok (.iload_n 2, 1) := by decide +kernel
theorem dX7_up_26 : decode cX7_up 26 = .ok (.invokevirtual 173, 3) := by decide +kernel
theorem dX7_up_29 : decode cX7_up 29 = .ok (.ireturn, 1) := by decide +kernel
theorem dX7_top_0 : decode cX7_top 0 = .ok (.aload_n 0, 1) := by decide +kernel
theorem dX7_top_1 : decode cX7_top 1 = .ok (.iload_n 1, 1) := by decide +kernel
theorem dX7_top_2 : decode cX7_top 2 = .ok (.invokevirtual 94, 3) := by decide +kernel
theorem dX7_top_5 : decode cX7_top 5 = .ok (.ifCond .eq 12, 3) := by decide +kernel
theorem dX7_top_8 : decode cX7_top 8 = .ok (.iload_n 2, 1) := by decide +kernel
theorem dX7_top_9 : decode cX7_top 9 = .ok (.iconst 0, 1) := by decide +kernel
theorem dX7_top_10 : decode cX7_top 10 = .ok (.iconst 1, 1) := by decide +kernel
theorem dX7_top_11 : decode cX7_top 11 = .ok (.invokestatic 74, 3) := by decide +kernel
theorem dX7_top_14 : decode cX7_top 14 = .ok (.ifCond .ne 5, 3) := by decide +kernel
theorem dX7_top_17 : decode cX7_top 17 = .ok (.iconst (-1), 1) := by decide +kernel
theorem dX7_top_18 : decode cX7_top 18 = .ok (.ireturn, 1) := by decide +kernel
theorem dX7_top_19 : decode cX7_top 19 = .ok (.aload_n 0, 1) := by decide +kernel
theorem dX7_top_20 : decode cX7_top 20 = .ok (.getfield 33, 3) := by decide +kernel
theorem dX7_top_23 : decode cX7_top 23 = .ok (.aload_n 0, 1) := by decide +kernel
theorem dX7_top_24 : decode cX7_top 24 = .ok (.getfield 23, 3) := by decide +kernel
theorem dX7_top_27 : decode cX7_top 27 = .ok (.getfield 112, 3) := by decide +kernel
theorem dX7_top_30 : decode cX7_top 30 = .ok (.invokevirtual 165, 3) := by decide +kernel
theorem dX7_top_33 : decode cX7_top 33 = .ok (.aload_n 0, 1) := by decide +kernel
theorem dX7_top_34 : decode cX7_top 34 = .ok (.getfield 33, 3) := by decide +kernel
theorem dX7_top_37 : decode cX7_top 37 = .ok (.getfield 115, 3) := by decide +kernel
theorem dX7_top_40 : decode cX7_top 40 = .ok (.istore_n 3, 1) := by decide +kernel
theorem dX7_top_41 : decode cX7_top 41 = .ok (.iconst 0, 1) := by decide +kernel
theorem dX7_top_42 : decode cX7_top 42 = .ok (.istore 4, 2) := by decide +kernel
theorem dX7_top_44 : decode cX7_top 44 = .ok (.iconst 1, 1) := by decide +kernel
theorem dX7_top_45 : decode cX7_top 45 = .ok (.istore 5, 2) := by decide +kernel
theorem dX7_top_47 : decode cX7_top 47 = .ok (.iload 5, 2) := by decide +kernel
theorem dX7_top_49 : decode cX7_top 49 = .ok (.bipush 60, 2) := by decide +kernel
theorem dX7_top_51 : decode cX7_top 51 = .ok (.if_icmp .gt 56, 3) := by decide +kernel
theorem dX7_top_54 : decode cX7_top 54 = .ok (.aload_n 0, 1) := by decide +kernel
theorem dX7_top_55 : decode cX7_top 55 = .ok (.getfield 33, 3) := by decide +kernel
theorem dX7_top_58 : decode cX7_top 58 = .ok (.aload_n 0, 1) := by decide +kernel
theorem dX7_top_59 : decode cX7_top 59 = .ok (.getfield 23, 3) := by decide +kernel
theorem dX7_top_62 : decode cX7_top 62 = .ok (.getfield 84, 3) := by decide +kernel
theorem dX7_top_65 : decode cX7_top 65 = .ok (.iload_n 1, 1) := by decide +kernel
theorem dX7_top_66 : decode cX7_top 66 = .ok (.aaload, 1) := by decide +kernel
theorem dX7_top_67 : decode cX7_top 67 = .ok (.aload_n 0, 1) := by decide +kernel
theorem dX7_top_68 : decode cX7_top 68 = .ok (.getfield 23, 3) := by decide +kernel
theorem dX7_top_71 : decode cX7_top 71 = .ok (.getfield 109, 3) := by decide +kernel
theorem dX7_top_74 : decode cX7_top 74 = .ok (.iconst 1, 1) := by decide +kernel
theorem dX7_top_75 : decode cX7_top 75 = .ok (.invokevirtual 158, 3) := by decide +kernel
theorem dX7_top_78 : decode cX7_top 78 = .ok (.aload_n 0, 1) := by decide +kernel
theorem dX7_top_79 : decode cX7_top 79 = .ok (.getfield 33, 3) := by decide +kernel
theorem dX7_top_82 : decode cX7_top 82 = .ok (.getfield 115, 3) := by decide +kernel
theorem dX7_top_85 : decode cX7_top 85 = .ok (.iload_n 3, 1) := by decide +kernel
theorem dX7_top_86 : decode cX7_top 86 = .ok (.if_icmp .le 15, 3) := by decide +kernel
theorem dX7_top_89 : decode cX7_top 89 = .ok (.aload_n 0, 1) := by decide +kernel
theorem dX7_top_90 : decode cX7_top 90 = .ok (.getfield 33, 3) := by decide +kernel
theorem dX7_top_93 : decode cX7_top 93 = .ok (.getfield 115, 3) := by decide +kernel
theorem dX7_top_96 : decode cX7_top 96 = .ok (.istore_n 3, 1) := by decide +kernel
theorem dX7_top_97 : decode cX7_top 97 = .ok (.iload 5, 2) := by decide +kernel
theorem dX7_top_99 : decode cX7_top 99 = .ok (.istore 4, 2) := by decide +kernel
theorem dX7_top_101 : decode cX7_top 101 = .ok (.iinc 5 1, 3) := by decide +kernel
theorem dX7_top_104 : decode cX7_top 104 = .ok (.goto (-57), 3) := by decide +kernel
theorem dX7_top_107 : decode cX7_top 107 = .ok (.iload_n 2, 1) := by decide +kernel
theorem dX7_top_108 : decode cX7_top 108 = .ok (.ifCond .ne 7, 3) := by decide +kernel
theorem dX7_top_111 : decode cX7_top 111 = .ok (.iload_n 3, 1) := by decide +kernel
theorem dX7_top_112 : decode cX7_top 112 = .ok (.goto 5, 3) := by decide +kernel
theorem dX7_top_115 : decode cX7_top 115 = .ok (.iload 4, 2) := by decide +kernel
theorem dX7_top_117 : decode cX7_top 117 = .ok (.ireturn, 1) := by decide +kernel
theorem dX7_arrives_0 : decode cX7_arrives 0 = .ok (.iload_n 1, 1) := by decide +kernel
theorem dX7_arrives_1 : decode cX7_arrives 1 = .ok (.invokestatic 78, 3) := by decide +kernel
theorem dX7_arrives_4 : decode cX7_arrives 4 = .ok (.ifCond .eq 10, 3) := by decide +kernel
theorem dX7_arrives_7 : decode cX7_arrives 7 = .ok (.iload_n 2, 1) := by decide +kernel
theorem dX7_arrives_8 : decode cX7_arrives 8 = .ok (.invokestatic 162, 3) := by decide +kernel
theorem dX7_arrives_11 : decode cX7_arrives 11 = .ok (.ifCond .ne 6, 3) := by decide +kernel
theorem dX7_arrives_14 : decode cX7_arrives 14 = .ok (.bipush (-2), 2) := by decide +kernel
theorem dX7_arrives_16 : decode cX7_arrives 16 = .ok (.ireturn, 1) := by decide +kernel
theorem dX7_arrives_17 : decode cX7_arrives 17 = .ok (.aload_n 0, 1) := by decide +kernel
theorem dX7_arrives_18 : decode cX7_arrives 18 = .ok (.getfield 33, 3) := by decide +kernel
theorem dX7_arrives_21 : decode cX7_arrives 21 = .ok (.aload_n 0, 1) := by decide +kernel
theorem dX7_arrives_22 : decode cX7_arrives 22 = .ok (.getfield 23, 3) := by decide +kernel
theorem dX7_arrives_25 : decode cX7_arrives 25 = .ok (.getfield 112, 3) := by decide +kernel
theorem dX7_arrives_28 : decode cX7_arrives 28 = .ok (.invokevirtual 165, 3) := by decide +kernel
theorem dX7_arrives_31 : decode cX7_arrives 31 = .ok (.aload_n 0, 1) := by decide +kernel
theorem dX7_arrives_32 : decode cX7_arrives 32 = .ok (.getfield 33, 3) := by decide +kernel
theorem dX7_arrives_35 : decode cX7_arrives 35 = .ok (.iload_n 1, 1) := by decide +kernel
theorem dX7_arrives_36 : decode cX7_arrives 36 = .ok (.iload_n 2, 1) := by decide +kernel
theorem dX7_arrives_37 : decode cX7_arrives 37 = .ok (.invokevirtual 169, 3) := by decide +kernel
theorem dX7_arrives_40 : decode cX7_arrives 40 = .ok (.ifCond .eq 13, 3) := by decide +kernel
theorem dX7_arrives_43 : decode cX7_arrives 43 = .ok (.aload_n 0, 1) := by decide +kernel
theorem dX7_arrives_44 : decode cX7_arrives 44 = .ok (.getfield 33, 3) := by decide +kernel
theorem dX7_arrives_47 : decode cX7_arrives 47 = .ok (.getfield 115, 3) := by decide +kernel
theorem dX7_arrives_50 : decode cX7_arrives 50 = .ok (.goto 5, 3) := by decide +kernel
theorem dX7_arrives_53 : decode cX7_arrives 53 = .ok (.bipush (-5), 2) := by decide +kernel
theorem dX7_arrives_55 : decode cX7_arrives 55 = .ok (.ireturn, 1) := by decide +kernel
theorem dX7_outed_0 : decode cX7_outed 0 = .ok (.iload_n 1, 1) := by decide +kernel
theorem dX7_outed_1 : decode cX7_outed 1 = .ok (.invokestatic 78, 3) := by decide +kernel
theorem dX7_outed_4 : decode cX7_outed 4 = .ok (.ifCond .eq 10, 3) := by decide +kernel
theorem dX7_outed_7 : decode cX7_outed 7 = .ok (.iload_n 2, 1) := by decide +kernel
theorem dX7_outed_8 : decode cX7_outed 8 = .ok (.invokestatic 162, 3) := by decide +kernel
theorem dX7_outed_11 : decode cX7_outed 11 = .ok (.ifCond .ne 6, 3) := by decide +kernel
theorem dX7_outed_14 : decode cX7_outed 14 = .ok (.bipush (-2), 2) := by decide +kernel
theorem dX7_outed_16 : decode cX7_outed 16 = .ok (.ireturn, 1) := by decide +kernel
theorem dX7_outed_17 : decode cX7_outed 17 = .ok (.iload_n 1, 1) := by decide +kernel
theorem dX7_outed_18 : decode cX7_outed 18 = .ok (.aload_n 0, 1) := by decide +kernel
theorem dX7_outed_19 : decode cX7_outed 19 = .ok (.getfield 23, 3) := by decide +kernel
theorem dX7_outed_22 : decode cX7_outed 22 = .ok (.getfield 112, 3) := by decide +kernel
theorem dX7_outed_25 : decode cX7_outed 25 = .ok (.getfield 148, 3) := by decide +kernel
theorem dX7_outed_28 : decode cX7_outed 28 = .ok (.isub, 1) := by decide +kernel
theorem dX7_outed_29 : decode cX7_outed 29 = .ok (.invokestatic 177, 3) := by decide +kernel
theorem dX7_outed_32 : decode cX7_outed 32 = .ok (.aload_n 0, 1) := by decide +kernel
theorem dX7_outed_33 : decode cX7_outed 33 = .ok (.getfield 23, 3) := by decide +kernel
theorem dX7_outed_36 : decode cX7_outed 36 = .ok (.getfield 112, 3) := by decide +kernel
theorem dX7_outed_39 : decode cX7_outed 39 = .ok (.getfield 115, 3) := by decide +kernel
theorem dX7_outed_42 : decode cX7_outed 42 = .ok (.iload_n 2, 1) := by decide +kernel
theorem dX7_outed_43 : decode cX7_outed 43 = .ok (.invokestatic 183, 3) := by decide +kernel
theorem dX7_outed_46 : decode cX7_outed 46 = .ok (.idiv, 1) := by decide +kernel
theorem dX7_outed_47 : decode cX7_outed 47 = .ok (.invokestatic 186, 3) := by decide +kernel
theorem dX7_outed_50 : decode cX7_outed 50 = .ok (.ireturn, 1) := by decide +kernel
theorem dX7_reach_0 : decode cX7_reach 0 = .ok (.iload_n 1, 1) := by decide +kernel
theorem dX7_reach_1 : decode cX7_reach 1 = .ok (.invokestatic 162, 3) := by decide +kernel
theorem dX7_reach_4 : decode cX7_reach 4 = .ok (.ifCond .ne 6, 3) := by decide +kernel
theorem dX7_reach_7 : decode cX7_reach 7 = .ok (.bipush (-2), 2) := by decide +kernel
theorem dX7_reach_9 : decode cX7_reach 9 = .ok (.ireturn, 1) := by decide +kernel
theorem dX7_reach_10 : decode cX7_reach 10 = .ok (.iconst 0, 1) := by decide +kernel
theorem dX7_reach_11 : decode cX7_reach 11 = .ok (.istore_n 2, 1) := by decide +kernel
theorem dX7_reach_12 : decode cX7_reach 12 = .ok (.iconst 0, 1) := by decide +kernel
theorem dX7_reach_13 : decode cX7_reach 13 = .ok (.istore_n 3, 1) := by decide +kernel
theorem dX7_reach_14 : decode cX7_reach 14 = .ok (.iload_n 3, 1) := by decide +kernel
theorem dX7_reach_15 : decode cX7_reach 15 = .ok (.aload_n 0, 1) := by decide +kernel
theorem dX7_reach_16 : decode cX7_reach 16 = .ok (.getfield 23, 3) := by decide +kernel
theorem dX7_reach_19 : decode cX7_reach 19 = .ok (.getfield 81, 3) := by decide +kernel
theorem dX7_reach_22 : decode cX7_reach 22 = .ok (.if_icmp .ge 35, 3) := by decide +kernel
theorem dX7_reach_25 : decode cX7_reach 25 = .ok (.aload_n 0, 1) := by decide +kernel
theorem dX7_reach_26 : decode cX7_reach 26 = .ok (.aload_n 0, 1) := by decide +kernel
theorem dX7_reach_27 : decode cX7_reach 27 = .ok (.getfield 23, 3) := by decide +kernel
theorem dX7_reach_30 : decode cX7_reach 30 = .ok (.getfield 84, 3) := by decide +kernel
theorem dX7_reach_33 : decode cX7_reach 33 = .ok (.iload_n 3, 1) := by decide +kernel
theorem dX7_reach_34 : decode cX7_reach 34 = .ok (.aaload, 1) := by decide +kernel
theorem dX7_reach_35 : decode cX7_reach 35 = .ok (.getfield 103, 3) := by decide +kernel
theorem dX7_reach_38 : decode cX7_reach 38 = .ok (.iload_n 1, 1) := by decide +kernel
theorem dX7_reach_39 : decode cX7_reach 39 = .ok (.invokevirtual 189, 3) := by decide +kernel
theorem dX7_reach_42 : decode cX7_reach 42 = .ok (.ifCond .eq 9, 3) := by decide +kernel
theorem dX7_reach_45 : decode cX7_reach 45 = .ok (.iload_n 2, 1) := by decide +kernel
theorem dX7_reach_46 : decode cX7_reach 46 = .ok (.iconst 1, 1) := by decide +kernel
theorem dX7_reach_47 : decode cX7_reach 47 = .ok (.iload_n 3, 1) := by decide +kernel
theorem dX7_reach_48 : decode cX7_reach 48 = .ok (.ishl, 1) := by decide +kernel
theorem dX7_reach_49 : decode cX7_reach 49 = .ok (.ior, 1) := by decide +kernel
theorem dX7_reach_50 : decode cX7_reach 50 = .ok (.istore_n 2, 1) := by decide +kernel
theorem dX7_reach_51 : decode cX7_reach 51 = .ok (.iinc 3 1, 3) := by decide +kernel
theorem dX7_reach_54 : decode cX7_reach 54 = .ok (.goto (-40), 3) := by decide +kernel
theorem dX7_reach_57 : decode cX7_reach 57 = .ok (.iload_n 2, 1) := by decide +kernel
theorem dX7_reach_58 : decode cX7_reach 58 = .ok (.ireturn, 1) := by decide +kernel
theorem dX7_next_0 : decode cX7_next 0 = .ok (.iload_n 1, 1) := by decide +kernel
theorem dX7_next_1 : decode cX7_next 1 = .ok (.invokestatic 162, 3) := by decide +kernel
theorem dX7_next_4 : decode cX7_next 4 = .ok (.ifCond .ne 6, 3) := by decide +kernel
theorem dX7_next_7 : decode cX7_next 7 = .ok (.bipush (-2), 2) := by decide +kernel
theorem dX7_next_9 : decode cX7_next 9 = .ok (.ireturn, 1) := by decide +kernel
theorem dX7_next_10 : decode cX7_next 10 = .ok (.bipush (-5), 2) := by decide +kernel
theorem dX7_next_12 : decode cX7_next 12 = .ok (.istore_n 2, 1) := by decide +kernel
theorem dX7_next_13 : decode cX7_next 13 = .ok (.iconst 0, 1) := by decide +kernel
theorem dX7_next_14 : decode cX7_next 14 = .ok (.istore_n 3, 1) := by decide +kernel
theorem dX7_next_15 : decode cX7_next 15 = .ok (.iconst 0, 1) := by decide +kernel
theorem dX7_next_16 : decode cX7_next 16 = .ok (.istore 4, 2) := by decide +kernel
theorem dX7_next_18 : decode cX7_next 18 = .ok (.iload 4, 2) := by decide +kernel
theorem dX7_next_20 : decode cX7_next 20 = .ok (.aload_n 0, 1) := by decide +kernel
theorem dX7_next_21 : decode cX7_next 21 = .ok (.getfield 23, 3) := by decide +kernel
theorem dX7_next_24 : decode cX7_next 24 = .ok (.getfield 81, 3) := by decide +kernel
theorem dX7_next_27 : decode cX7_next 27 = .ok (.if_icmp .ge 80, 3) := by decide +kernel
theorem dX7_next_30 : decode cX7_next 30 = .ok (.aload_n 0, 1) := by decide +kernel
theorem dX7_next_31 : decode cX7_next 31 = .ok (.getfield 23, 3) := by decide +kernel
theorem dX7_next_34 : decode cX7_next 34 = .ok (.getfield 84, 3) := by decide +kernel
theorem dX7_next_37 : decode cX7_next 37 = .ok (.iload 4, 2) := by decide +kernel
theorem dX7_next_39 : decode cX7_next 39 = .ok (.aaload, 1) := by decide +kernel
theorem dX7_next_40 : decode cX7_next 40 = .ok (.astore 5, 2) := by decide +kernel
theorem dX7_next_42 : decode cX7_next 42 = .ok (.aload_n 0, 1) := by decide +kernel
theorem dX7_next_43 : decode cX7_next 43 = .ok (.aload 5, 2) := by decide +kernel
theorem dX7_next_45 : decode cX7_next 45 = .ok (.getfield 103, 3) := by decide +kernel
theorem dX7_next_48 : decode cX7_next 48 = .ok (.iload_n 1, 1) := by decide +kernel
theorem dX7_next_49 : decode cX7_next 49 = .ok (.invokevirtual 189, 3) := by decide +kernel
theorem dX7_next_52 : decode cX7_next 52 = .ok (.ifCond .eq 49, 3) := by decide +kernel
theorem dX7_next_55 : decode cX7_next 55 = .ok (.aload 5, 2) := by decide +kernel
theorem dX7_next_57 : decode cX7_next 57 = .ok (.aload_n 0, 1) := by decide +kernel
theorem dX7_next_58 : decode cX7_next 58 = .ok (.getfield 23, 3) := by decide +kernel
theorem dX7_next_61 : decode cX7_next 61 = .ok (.getfield 109, 3) := by decide +kernel
theorem dX7_next_64 : decode cX7_next 64 = .ok (.aload_n 0, 1) := by decide +kernel
theorem dX7_next_65 : decode cX7_next 65 = .ok (.getfield 33, 3) := by decide +kernel
theorem dX7_next_68 : decode cX7_next 68 = .ok (.getfield 115, 3) := by decide +kernel
theorem dX7_next_71 : decode cX7_next 71 = .ok (.aload_n 0, 1) := by decide +kernel
theorem dX7_next_72 : decode cX7_next 72 = .ok (.getfield 33, 3) := by decide +kernel
theorem dX7_next_75 : decode cX7_next 75 = .ok (.getfield 118, 3) := by decide +kernel
theorem dX7_next_78 : decode cX7_next 78 = .ok (.invokevirtual 125, 3) := by decide +kernel
theorem dX7_next_81 : decode cX7_next 81 = .ok (.istore 6, 2) := by decide +kernel
theorem dX7_next_83 : decode cX7_next 83 = .ok (.iload_n 2, 1) := by decide +kernel
theorem dX7_next_84 : decode cX7_next 84 = .ok (.bipush (-5), 2) := by decide +kernel
theorem dX7_next_86 : decode cX7_next 86 = .ok (.if_icmp .eq 9, 3) := by decide +kernel
theorem dX7_next_89 : decode cX7_next 89 = .ok (.iload 6, 2) := by decide +kernel
theorem dX7_next_91 : decode cX7_next 91 = .ok (.iload_n 3, 1) := by decide +kernel
theorem dX7_next_92 : decode cX7_next 92 = .ok (.if_icmp .le 9, 3) := by decide +kernel
theorem dX7_next_95 : decode cX7_next 95 = .ok (.iload 4, 2) := by decide +kernel
theorem dX7_next_97 : decode cX7_next 97 = .ok (.istore_n 2, 1) := by decide +kernel
theorem dX7_next_98 : decode cX7_next 98 = .ok (.iload 6, 2) := by decide +kernel
theorem dX7_next_100 : decode cX7_next 100 = .ok (.istore_n 3, 1) := by decide +kernel
theorem dX7_next_101 : decode cX7_next 101 = .ok (.iinc 4 1, 3) := by decide +kernel
theorem dX7_next_104 : decode cX7_next 104 = .ok (.goto (-86), 3) := by decide +kernel
theorem dX7_next_107 : decode cX7_next 107 = .ok (.iload_n 2, 1) := by decide +kernel
theorem dX7_next_108 : decode cX7_next 108 = .ok (.ireturn, 1) := by decide +kernel
theorem dX7_lowest_0 : decode cX7_lowest 0 = .ok (.aload_n 0, 1) := by decide +kernel
theorem dX7_lowest_1 : decode cX7_lowest 1 = .ok (.iload_n 1, 1) := by decide +kernel
theorem dX7_lowest_2 : decode cX7_lowest 2 = .ok (.invokevirtual 94, 3) := by decide +kernel
theorem dX7_lowest_5 : decode cX7_lowest 5 = .ok (.ifCond .ne 5, 3) := by decide +kernel
theorem dX7_lowest_8 : decode cX7_lowest 8 = .ok (.iconst (-1), 1) := by decide +kernel
theorem dX7_lowest_9 : decode cX7_lowest 9 = .ok (.ireturn, 1) := by decide +kernel
theorem dX7_lowest_10 : decode cX7_lowest 10 = .ok (.iload_n 2, 1) := by decide +kernel
theorem dX7_lowest_11 : decode cX7_lowest 11 = .ok (.invokestatic 162, 3) := by decide +kernel
theorem dX7_lowest_14 : decode cX7_lowest 14 = .ok (.ifCond .ne 6, 3) := by decide +kernel
theorem dX7_lowest_17 : decode cX7_lowest 17 = .ok (.bipush (-2), 2) := by decide +kernel
theorem dX7_lowest_19 : decode cX7_lowest 19 = .ok (.ireturn, 1) := by decide +kernel
theorem dX7_lowest_20 : decode cX7_lowest 20 = .ok (.aload_n 0, 1) := by decide +kernel
theorem dX7_lowest_21 : decode cX7_lowest 21 = .ok (.aload_n 0, 1) := by decide +kernel
theorem dX7_lowest_22 : decode cX7_lowest 22 = .ok (.getfield 23, 3) := by decide +kernel
theorem dX7_lowest_25 : decode cX7_lowest 25 = .ok (.getfield 112, 3) := by decide +kernel
theorem dX7_lowest_28 : decode cX7_lowest 28 = .ok (.getfield 148, 3) := by decide +kernel
theorem dX7_lowest_31 : decode cX7_lowest 31 = .ok (.aload_n 0, 1) := by decide +kernel
theorem dX7_lowest_32 : decode cX7_lowest 32 = .ok (.getfield 23, 3) := by decide +kernel
theorem dX7_lowest_35 : decode cX7_lowest 35 = .ok (.getfield 84, 3) := by decide +kernel
theorem dX7_lowest_38 : decode cX7_lowest 38 = .ok (.iload_n 1, 1) := by decide +kernel
theorem dX7_lowest_39 : decode cX7_lowest 39 = .ok (.aaload, 1) := by decide +kernel
theorem dX7_lowest_40 : decode cX7_lowest 40 = .ok (.getfield 103, 3) := by decide +kernel
theorem dX7_lowest_43 : decode cX7_lowest 43 = .ok (.iload_n 2, 1) := by decide +kernel
theorem dX7_lowest_44 : decode cX7_lowest 44 = .ok (.invokevirtual 192, 3) := by decide +kernel
theorem dX7_lowest_47 : decode cX7_lowest 47 = .ok (.istore_n 3, 1) := by decide +kernel
theorem dX7_lowest_48 : decode cX7_lowest 48 = .ok (.iload_n 3, 1) := by decide +kernel
theorem dX7_lowest_49 : decode cX7_lowest 49 = .ok (.sipush 400, 3) := by decide +kernel
theorem dX7_lowest_52 : decode cX7_lowest 52 = .ok (.if_icmp .le 8, 3) := by decide +kernel
theorem dX7_lowest_55 : decode cX7_lowest 55 = .ok (.bipush (-5), 2) := by decide +kernel
theorem dX7_lowest_57 : decode cX7_lowest 57 = .ok (.goto 4, 3) := by decide +kernel
theorem dX7_lowest_60 : decode cX7_lowest 60 = .ok (.iload_n 3, 1) := by decide +kernel
theorem dX7_lowest_61 : decode cX7_lowest 61 = .ok (.ireturn, 1) := by decide +kernel
theorem dX7_by_0 : decode cX7_by 0 = .ok (.aload_n 0, 1) := by decide +kernel
theorem dX7_by_1 : decode cX7_by 1 = .ok (.iload_n 1, 1) := by decide +kernel
theorem dX7_by_2 : decode cX7_by 2 = .ok (.invokevirtual 94, 3) := by decide +kernel
theorem dX7_by_5 : decode cX7_by 5 = .ok (.ifCond .eq 12, 3) := by decide +kernel
theorem dX7_by_8 : decode cX7_by 8 = .ok (.iload_n 3, 1) := by decide +kernel
theorem dX7_by_9 : decode cX7_by 9 = .ok (.iconst 0, 1) := by decide +kernel
theorem dX7_by_10 : decode cX7_by 10 = .ok (.iconst 1, 1) := by decide +kernel
theorem dX7_by_11 : decode cX7_by 11 = .ok (.invokestatic 74, 3) := by decide +kernel
theorem dX7_by_14 : decode cX7_by 14 = .ok (.ifCond .ne 5, 3) := by decide +kernel
theorem dX7_by_17 : decode cX7_by 17 = .ok (.iconst (-1), 1) := by decide +kernel
theorem dX7_by_18 : decode cX7_by 18 = .ok (.ireturn, 1) := by decide +kernel
theorem dX7_by_19 : decode cX7_by 19 = .ok (.iload_n 2, 1) := by decide +kernel
theorem dX7_by_20 : decode cX7_by 20 = .ok (.invokestatic 162, 3) := by decide +kernel
theorem dX7_by_23 : decode cX7_by 23 = .ok (.ifCond .ne 6, 3) := by decide +kernel
theorem dX7_by_26 : decode cX7_by 26 = .ok (.bipush (-2), 2) := by decide +kernel
theorem dX7_by_28 : decode cX7_by 28 = .ok (.ireturn, 1) := by decide +kernel
theorem dX7_by_29 : decode cX7_by 29 = .ok (.aload_n 0, 1) := by decide +kernel
theorem dX7_by_30 : decode cX7_by 30 = .ok (.getfield 33, 3) := by decide +kernel
theorem dX7_by_33 : decode cX7_by 33 = .ok (.aload_n 0, 1) := by decide +kernel
theorem dX7_by_34 : decode cX7_by 34 = .ok (.getfield 23, 3) := by decide +kernel
theorem dX7_by_37 : decode cX7_by 37 = .ok (.getfield 112, 3) := by decide +kernel
theorem dX7_by_40 : decode cX7_by 40 = .ok (.invokevirtual 165, 3) := by decide +kernel
theorem dX7_by_43 : decode cX7_by 43 = .ok (.aload_n 0, 1) := by decide +kernel
theorem dX7_by_44 : decode cX7_by 44 = .ok (.aload_n 0, 1) := by decide +kernel
theorem dX7_by_45 : decode cX7_by 45 = .ok (.getfield 23, 3) := by decide +kernel
theorem dX7_by_48 : decode cX7_by 48 = .ok (.getfield 84, 3) := by decide +kernel
theorem dX7_by_51 : decode cX7_by 51 = .ok (.iload_n 1, 1) := by decide +kernel
theorem dX7_by_52 : decode cX7_by 52 = .ok (.aaload, 1) := by decide +kernel
theorem dX7_by_53 : decode cX7_by 53 = .ok (.iload_n 2, 1) := by decide +kernel
theorem dX7_by_54 : decode cX7_by 54 = .ok (.aload_n 0, 1) := by decide +kernel
theorem dX7_by_55 : decode cX7_by 55 = .ok (.getfield 23, 3) := by decide +kernel
theorem dX7_by_58 : decode cX7_by 58 = .ok (.getfield 145, 3) := by decide +kernel
theorem dX7_by_61 : decode cX7_by 61 = .ok (.bipush 60, 2) := by decide +kernel
theorem dX7_by_63 : decode cX7_by 63 = .ok (.invokevirtual 196, 3) := by decide +kernel
theorem dX7_by_66 : decode cX7_by 66 = .ok (.ifCond .ne 6, 3) := by decide +kernel
theorem dX7_by_69 : decode cX7_by 69 = .ok (.bipush (-5), 2) := by decide +kernel
theorem dX7_by_71 : decode cX7_by 71 = .ok (.ireturn, 1) := by decide +kernel
theorem dX7_by_72 : decode cX7_by 72 = .ok (.iload_n 3, 1) := by decide +kernel
theorem dX7_by_73 : decode cX7_by 73 = .ok (.ifCond .ne 11, 3) := by decide +kernel
theorem dX7_by_76 : decode cX7_by 76 = .ok (.aload_n 0, 1) := by decide +kernel
theorem dX7_by_77 : decode cX7_by 77 = .ok (.iload_n 2, 1) := by decide +kernel
theorem dX7_by_78 : decode cX7_by 78 = .ok (.invokevirtual 200, 3) := by decide +kernel
theorem dX7_by_81 : decode cX7_by 81 = .ok (.goto 10, 3) := by decide +kernel
theorem dX7_by_84 : decode cX7_by 84 = .ok (.aload_n 0, 1) := by decide +kernel
theorem dX7_by_85 : decode cX7_by 85 = .ok (.getfield 33, 3) := by decide +kernel
theorem dX7_by_88 : decode cX7_by 88 = .ok (.getfield 115, 3) := by decide +kernel
theorem dX7_by_91 : decode cX7_by 91 = .ok (.ireturn, 1) := by decide +kernel
theorem dX7_straight_0 : decode cX7_straight 0 = .ok (.iload_n 1, 1) := by decide +kernel
theorem dX7_straight_1 : decode cX7_straight 1 = .ok (.invokestatic 162, 3) := by decide +kernel
theorem dX7_straight_4 : decode cX7_straight 4 = .ok (.ifCond .ne 6, 3) := by decide +kernel
theorem dX7_straight_7 : decode cX7_straight 7 = .ok (.bipush (-2), 2) := by decide +kernel
theorem dX7_straight_9 : decode cX7_straight 9 = .ok (.ireturn, 1) := by decide +kernel
theorem dX7_straight_10 : decode cX7_straight 10 = .ok (.aload_n 0, 1) := by decide +kernel
theorem dX7_straight_11 : decode cX7_straight 11 = .ok (.aload_n 0, 1) := by decide +kernel
theorem dX7_straight_12 : decode cX7_straight 12 = .ok (.getfield 23, 3) := by decide +kernel
theorem dX7_straight_15 : decode cX7_straight 15 = .ok (.getfield 145, 3) := by decide +kernel
theorem dX7_straight_18 : decode cX7_straight 18 = .ok (.iload_n 1, 1) := by decide +kernel
theorem dX7_straight_19 : decode cX7_straight 19 = .ok (.invokevirtual 189, 3) := by decide +kernel
theorem dX7_straight_22 : decode cX7_straight 22 = .ok (.ifCond .eq 24, 3) := by decide +kernel
theorem dX7_straight_25 : decode cX7_straight 25 = .ok (.aload_n 0, 1) := by decide +kernel
theorem dX7_straight_26 : decode cX7_straight 26 = .ok (.getfield 33, 3) := by decide +kernel
theorem dX7_straight_29 : decode cX7_straight 29 = .ok (.getfield 118, 3) := by decide +kernel
theorem dX7_straight_32 : decode cX7_straight 32 = .ok (.aload_n 0, 1) := by decide +kernel
theorem dX7_straight_33 : decode cX7_straight 33 = .ok (.getfield 23, 3) := by decide +kernel
theorem dX7_straight_36 : decode cX7_straight 36 = .ok (.getfield 112, 3) := by decide +kernel
theorem dX7_straight_39 : decode cX7_straight 39 = .ok (.getfield 118, 3) := by decide +kernel
theorem dX7_straight_42 : decode cX7_straight 42 = .ok (.isub, 1) := by decide +kernel
theorem dX7_straight_43 : decode cX7_straight 43 = .ok (.goto 5, 3) := by decide +kernel
theorem dX7_straight_46 : decode cX7_straight 46 = .ok (.bipush (-5), 2) := by decide +kernel
theorem dX7_straight_48 : decode cX7_straight 48 = .ok (.ireturn, 1) := by decide +kernel
theorem dX7_best_0 : decode cX7_best 0 = .ok (.iload_n 1, 1) := by decide +kernel
theorem dX7_best_1 : decode cX7_best 1 = .ok (.iconst 0, 1) := by decide +kernel
theorem dX7_best_2 : decode cX7_best 2 = .ok (.iconst 2, 1) := by decide +kernel
theorem dX7_best_3 : decode cX7_best 3 = .ok (.invokestatic 74, 3) := by decide +kernel
theorem dX7_best_6 : decode cX7_best 6 = .ok (.ifCond .ne 7, 3) := by decide +kernel
theorem dX7_best_9 : decode cX7_best 9 = .ok (.sipush (-1001), 3) := by decide +kernel
theorem dX7_best_12 : decode cX7_best 12 = .ok (.ireturn, 1) := by decide +kernel
theorem dX7_best_13 : decode cX7_best 13 = .ok (.aload_n 0, 1) := by decide +kernel
theorem dX7_best_14 : decode cX7_best 14 = .ok (.bipush (-5), 2) := by decide +kernel
theorem dX7_best_16 : decode cX7_best 16 = .ok (.invokevirtual 203, 3) := by decide +kernel
theorem dX7_best_19 : decode cX7_best 19 = .ok (.istore_n 2, 1) := by decide +kernel
theorem dX7_best_20 : decode cX7_best 20 = .ok (.iload_n 2, 1) := by decide +kernel
theorem dX7_best_21 : decode cX7_best 21 = .ok (.ldc 206, 2) := by decide +kernel
theorem dX7_best_23 : decode cX7_best 23 = .ok (.if_icmp .ne 6, 3) := by decide +kernel
theorem dX7_best_26 : decode cX7_best 26 = .ok (.bipush (-5), 2) := by decide +kernel
theorem dX7_best_28 : decode cX7_best 28 = .ok (.ireturn, 1) := by decide +kernel
theorem dX7_best_29 : decode cX7_best 29 = .ok (.iload_n 1, 1) := by decide +kernel
theorem dX7_best_30 : decode cX7_best 30 = .ok (.lookupswitch 41 #[(0, 26), (1, 36)], 26) := by decide +kernel
theorem dX7_best_56 : decode cX7_best 56 = .ok (.iload_n 2, 1) := by decide +kernel
theorem dX7_best_57 : decode cX7_best 57 = .ok (.bipush 10, 2) := by decide +kernel
theorem dX7_best_59 : decode cX7_best 59 = .ok (.idiv, 1) := by decide +kernel
theorem dX7_best_60 : decode cX7_best 60 = .ok (.bipush 10, 2) := by decide +kernel
theorem dX7_best_62 : decode cX7_best 62 = .ok (.irem, 1) := by decide +kernel
theorem dX7_best_63 : decode cX7_best 63 = .ok (.iconst 1, 1) := by decide +kernel
theorem dX7_best_64 : decode cX7_best 64 = .ok (.isub, 1) := by decide +kernel
theorem dX7_best_65 : decode cX7_best 65 = .ok (.ireturn, 1) := by decide +kernel
theorem dX7_best_66 : decode cX7_best 66 = .ok (.iload_n 2, 1) := by decide +kernel
theorem dX7_best_67 : decode cX7_best 67 = .ok (.bipush 10, 2) := by decide +kernel
theorem dX7_best_69 : decode cX7_best 69 = .ok (.irem, 1) := by decide +kernel
theorem dX7_best_70 : decode cX7_best 70 = .ok (.ireturn, 1) := by decide +kernel
theorem dX7_best_71 : decode cX7_best 71 = .ok (.iload_n 2, 1) := by decide +kernel
theorem dX7_best_72 : decode cX7_best 72 = .ok (.bipush 100, 2) := by decide +kernel
theorem dX7_best_74 : decode cX7_best 74 = .ok (.idiv, 1) := by decide +kernel
theorem dX7_best_75 : decode cX7_best 75 = .ok (.ireturn, 1) := by decide +kernel
theorem dX7_two_0 : decode cX7_two 0 = .ok (.iload_n 2, 1) := by decide +kernel
theorem dX7_two_1 : decode cX7_two 1 = .ok (.iconst 0, 1) := by decide +kernel
theorem dX7_two_2 : decode cX7_two 2 = .ok (.iconst 1, 1) := by decide +kernel
theorem dX7_two_3 : decode cX7_two 3 = .ok (.invokestatic 74, 3) := by decide +kernel
theorem dX7_two_6 : decode cX7_two 6 = .ok (.ifCond .ne 5, 3) := by decide +kernel
theorem dX7_two_9 : decode cX7_two 9 = .ok (.iconst (-1), 1) := by decide +kernel
theorem dX7_two_10 : decode cX7_two 10 = .ok (.ireturn, 1) := by decide +kernel
theorem dX7_two_11 : decode cX7_two 11 = .ok (.iload_n 1, 1) := by decide +kernel
theorem dX7_two_12 : decode cX7_two 12 = .ok (.invokestatic 162, 3) := by decide +kernel
theorem dX7_two_15 : decode cX7_two 15 = .ok (.ifCond .ne 6, 3) := by decide +kernel
theorem dX7_two_18 : decode cX7_two 18 = .ok (.bipush (-2), 2) := by decide +kernel
theorem dX7_two_20 : decode cX7_two 20 = .ok (.ireturn, 1) := by decide +kernel
theorem dX7_two_21 : decode cX7_two 21 = .ok (.bipush (-5), 2) := by decide +kernel
theorem dX7_two_23 : decode cX7_two 23 = .ok (.istore_n 3, 1) := by decide +kernel
theorem dX7_two_24 : decode cX7_two 24 = .ok (.ldc 206, 2) := by decide +kernel
theorem dX7_two_26 : decode cX7_two 26 = .ok (.istore 4, 2) := by decide +kernel
theorem dX7_two_28 : decode cX7_two 28 = .ok (.iconst 0, 1) := by decide +kernel
theorem dX7_two_29 : decode cX7_two 29 = .ok (.istore 5, 2) := by decide +kernel
theorem dX7_two_31 : decode cX7_two 31 = .ok (.iload 5, 2) := by decide +kernel
theorem dX7_two_33 : decode cX7_two 33 = .ok (.aload_n 0, 1) := by decide +kernel
theorem dX7_two_34 : decode cX7_two 34 = .ok (.getfield 23, 3) := by decide +kernel
theorem dX7_two_37 : decode cX7_two 37 = .ok (.getfield 81, 3) := by decide +kernel
theorem dX7_two_40 : decode cX7_two 40 = .ok (.if_icmp .ge 89, 3) := by decide +kernel
theorem dX7_two_43 : decode cX7_two 43 = .ok (.iconst 0, 1) := by decide +kernel
theorem dX7_two_44 : decode cX7_two 44 = .ok (.istore 6, 2) := by decide +kernel
theorem dX7_two_46 : decode cX7_two 46 = .ok (.iload 6, 2) := by decide +kernel
theorem dX7_two_48 : decode cX7_two 48 = .ok (.aload_n 0, 1) := by decide +kernel
theorem dX7_two_49 : decode cX7_two 49 = .ok (.getfield 23, 3) := by decide +kernel
theorem dX7_two_52 : decode cX7_two 52 = .ok (.getfield 81, 3) := by decide +kernel
theorem dX7_two_55 : decode cX7_two 55 = .ok (.if_icmp .ge 68, 3) := by decide +kernel
theorem dX7_two_58 : decode cX7_two 58 = .ok (.iload 5, 2) := by decide +kernel
theorem dX7_two_60 : decode cX7_two 60 = .ok (.iload 6, 2) := by decide +kernel
theorem dX7_two_62 : decode cX7_two 62 = .ok (.if_icmp .ne 8, 3) := by decide +kernel
theorem dX7_two_65 : decode cX7_two 65 = .ok (.ldc 206, 2) := by decide +kernel
theorem dX7_two_67 : decode cX7_two 67 = .ok (.goto 28, 3) := by decide +kernel
theorem dX7_two_70 : decode cX7_two 70 = .ok (.aload_n 0, 1) := by decide +kernel
theorem dX7_two_71 : decode cX7_two 71 = .ok (.aload_n 0, 1) := by decide +kernel
theorem dX7_two_72 : decode cX7_two 72 = .ok (.getfield 23, 3) := by decide +kernel
theorem dX7_two_75 : decode cX7_two 75 = .ok (.getfield 84, 3) := by decide +kernel
theorem dX7_two_78 : decode cX7_two 78 = .ok (.iload 5, 2) := by decide +kernel
theorem dX7_two_80 : decode cX7_two 80 = .ok (.aaload, 1) := by decide +kernel
theorem dX7_two_81 : decode cX7_two 81 = .ok (.aload_n 0, 1) := by decide +kernel
theorem dX7_two_82 : decode cX7_two 82 = .ok (.getfield 23, 3) := by decide +kernel
theorem dX7_two_85 : decode cX7_two 85 = .ok (.getfield 84, 3) := by decide +kernel
theorem dX7_two_88 : decode cX7_two 88 = .ok (.iload 6, 2) := by decide +kernel
theorem dX7_two_90 : decode cX7_two 90 = .ok (.aaload, 1) := by decide +kernel
theorem dX7_two_91 : decode cX7_two 91 = .ok (.iload_n 1, 1) := by decide +kernel
theorem dX7_two_92 : decode cX7_two 92 = .ok (.invokevirtual 207, 3) := by decide +kernel
theorem dX7_two_95 : decode cX7_two 95 = .ok (.istore 7, 2) := by decide +kernel
theorem dX7_two_97 : decode cX7_two 97 = .ok (.iload 7, 2) := by decide +kernel
theorem dX7_two_99 : decode cX7_two 99 = .ok (.iload 4, 2) := by decide +kernel
theorem dX7_two_101 : decode cX7_two 101 = .ok (.if_icmp .ge 16, 3) := by decide +kernel
theorem dX7_two_104 : decode cX7_two 104 = .ok (.iload 7, 2) := by decide +kernel
theorem dX7_two_106 : decode cX7_two 106 = .ok (.istore 4, 2) := by decide +kernel
theorem dX7_two_108 : decode cX7_two 108 = .ok (.bipush 10, 2) := by decide +kernel
theorem dX7_two_110 : decode cX7_two 110 = .ok (.iload 5, 2) := by decide +kernel
theorem dX7_two_112 : decode cX7_two 112 = .ok (.imul, 1) := by decide +kernel
theorem dX7_two_113 : decode cX7_two 113 = .ok (.iload 6, 2) := by decide +kernel
theorem dX7_two_115 : decode cX7_two 115 = .ok (.iadd, 1) := by decide +kernel
theorem dX7_two_116 : decode cX7_two 116 = .ok (.istore_n 3, 1) := by decide +kernel
theorem dX7_two_117 : decode cX7_two 117 = .ok (.iinc 6 1, 3) := by decide +kernel
theorem dX7_two_120 : decode cX7_two 120 = .ok (.goto (-74), 3) := by decide +kernel
theorem dX7_two_123 : decode cX7_two 123 = .ok (.iinc 5 1, 3) := by decide +kernel
theorem dX7_two_126 : decode cX7_two 126 = .ok (.goto (-95), 3) := by decide +kernel
theorem dX7_two_129 : decode cX7_two 129 = .ok (.iload_n 2, 1) := by decide +kernel
theorem dX7_two_130 : decode cX7_two 130 = .ok (.ifCond .eq 9, 3) := by decide +kernel
theorem dX7_two_133 : decode cX7_two 133 = .ok (.iload_n 3, 1) := by decide +kernel
theorem dX7_two_134 : decode cX7_two 134 = .ok (.bipush (-5), 2) := by decide +kernel
theorem dX7_two_136 : decode cX7_two 136 = .ok (.if_icmp .ne 7, 3) := by decide +kernel
theorem dX7_two_139 : decode cX7_two 139 = .ok (.iload_n 3, 1) := by decide +kernel
theorem dX7_two_140 : decode cX7_two 140 = .ok (.goto 5, 3) := by decide +kernel
theorem dX7_two_143 : decode cX7_two 143 = .ok (.iload 4, 2) := by decide +kernel
theorem dX7_two_145 : decode cX7_two 145 = .ok (.ireturn, 1) := by decide +kernel
theorem dX7_worth_0 : decode cX7_worth 0 = .ok (.aload_n 0, 1) := by decide +kernel
theorem dX7_worth_1 : decode cX7_worth 1 = .ok (.iload_n 1, 1) := by decide +kernel
theorem dX7_worth_2 : decode cX7_worth 2 = .ok (.invokevirtual 94, 3) := by decide +kernel
theorem dX7_worth_5 : decode cX7_worth 5 = .ok (.ifCond .ne 5, 3) := by decide +kernel
theorem dX7_worth_8 : decode cX7_worth 8 = .ok (.iconst (-1), 1) := by decide +kernel
theorem dX7_worth_9 : decode cX7_worth 9 = .ok (.ireturn, 1) := by decide +kernel
theorem dX7_worth_10 : decode cX7_worth 10 = .ok (.aload_n 0, 1) := by decide +kernel
theorem dX7_worth_11 : decode cX7_worth 11 = .ok (.iload_n 1, 1) := by decide +kernel
theorem dX7_worth_12 : decode cX7_worth 12 = .ok (.invokevirtual 203, 3) := by decide +kernel
theorem dX7_worth_15 : decode cX7_worth 15 = .ok (.invokestatic 211, 3) := by decide +kernel
theorem dX7_worth_18 : decode cX7_worth 18 = .ok (.aload_n 0, 1) := by decide +kernel
theorem dX7_worth_19 : decode cX7_worth 19 = .ok (.bipush (-5), 2) := by decide +kernel
theorem dX7_worth_21 : decode cX7_worth 21 = .ok (.invokevirtual 203, 3) := by decide +kernel
theorem dX7_worth_24 : decode cX7_worth 24 = .ok (.invokestatic 211, 3) := by decide +kernel
theorem dX7_worth_27 : decode cX7_worth 27 = .ok (.isub, 1) := by decide +kernel
theorem dX7_worth_28 : decode cX7_worth 28 = .ok (.ireturn, 1) := by decide +kernel
theorem dX7_leg_0 : decode cX7_leg 0 = .ok (.aload_n 0, 1) := by decide +kernel
theorem dX7_leg_1 : decode cX7_leg 1 = .ok (.aload_n 0, 1) := by decide +kernel
theorem dX7_leg_2 : decode cX7_leg 2 = .ok (.getfield 23, 3) := by decide +kernel
theorem dX7_leg_5 : decode cX7_leg 5 = .ok (.getfield 214, 3) := by decide +kernel
theorem dX7_leg_8 : decode cX7_leg 8 = .ok (.iload_n 1, 1) := by decide +kernel
theorem dX7_leg_9 : decode cX7_leg 9 = .ok (.iload_n 2, 1) := by decide +kernel
theorem dX7_leg_10 : decode cX7_leg 10 = .ok (.iconst 0, 1) := by decide +kernel
theorem dX7_leg_11 : decode cX7_leg 11 = .ok (.bipush 60, 2) := by decide +kernel
theorem dX7_leg_13 : decode cX7_leg 13 = .ok (.invokevirtual 218, 3) := by decide +kernel
theorem dX7_leg_16 : decode cX7_leg 16 = .ok (.ireturn, 1) := by decide +kernel
theorem dX7_flown_0 : decode cX7_flown 0 = .ok (.iload_n 2, 1) := by decide +kernel
theorem dX7_flown_1 : decode cX7_flown 1 = .ok (.iconst 0, 1) := by decide +kernel
theorem dX7_flown_2 : decode cX7_flown 2 = .ok (.iconst 1, 1) := by decide +kernel
theorem dX7_flown_3 : decode cX7_flown 3 = .ok (.invokestatic 74, 3) := by decide +kernel
theorem dX7_flown_6 : decode cX7_flown 6 = .ok (.ifCond .ne 5, 3) := by decide +kernel
theorem dX7_flown_9 : decode cX7_flown 9 = .ok (.iconst (-1), 1) := by decide +kernel
theorem dX7_flown_10 : decode cX7_flown 10 = .ok (.ireturn, 1) := by decide +kernel
theorem dX7_flown_11 : decode cX7_flown 11 = .ok (.iload_n 1, 1) := by decide +kernel
theorem dX7_flown_12 : decode cX7_flown 12 = .ok (.invokestatic 162, 3) := by decide +kernel
theorem dX7_flown_15 : decode cX7_flown 15 = .ok (.ifCond .ne 6, 3) := by decide +kernel
theorem dX7_flown_18 : decode cX7_flown 18 = .ok (.bipush (-2), 2) := by decide +kernel
theorem dX7_flown_20 : decode cX7_flown 20 = .ok (.ireturn, 1) := by decide +kernel
theorem dX7_flown_21 : decode cX7_flown 21 = .ok (.aload_n 0, 1) := by decide +kernel
theorem dX7_flown_22 : decode cX7_flown 22 = .ok (.getfield 33, 3) := by decide +kernel
theorem dX7_flown_25 : decode cX7_flown 25 = .ok (.aload_n 0, 1) := by decide +kernel
theorem dX7_flown_26 : decode cX7_flown 26 = .ok (.getfield 23, 3) := by decide +kernel
theorem dX7_flown_29 : decode cX7_flown 29 = .ok (.getfield 112, 3) := by decide +kernel
theorem dX7_flown_32 : decode cX7_flown 32 = .ok (.invokevirtual 165, 3) := by decide +kernel
theorem dX7_flown_35 : decode cX7_flown 35 = .ok (.iconst 0, 1) := by decide +kernel
theorem dX7_flown_36 : decode cX7_flown 36 = .ok (.istore_n 3, 1) := by decide +kernel
theorem dX7_flown_37 : decode cX7_flown 37 = .ok (.iload_n 3, 1) := by decide +kernel
theorem dX7_flown_38 : decode cX7_flown 38 = .ok (.aload_n 0, 1) := by decide +kernel
theorem dX7_flown_39 : decode cX7_flown 39 = .ok (.getfield 23, 3) := by decide +kernel
theorem dX7_flown_42 : decode cX7_flown 42 = .ok (.getfield 214, 3) := by decide +kernel
theorem dX7_flown_45 : decode cX7_flown 45 = .ok (.getfield 222, 3) := by decide +kernel
theorem dX7_flown_48 : decode cX7_flown 48 = .ok (.if_icmp .ge 78, 3) := by decide +kernel
theorem dX7_flown_51 : decode cX7_flown 51 = .ok (.aload_n 0, 1) := by decide +kernel
theorem dX7_flown_52 : decode cX7_flown 52 = .ok (.getfield 23, 3) := by decide +kernel
theorem dX7_flown_55 : decode cX7_flown 55 = .ok (.getfield 84, 3) := by decide +kernel
theorem dX7_flown_58 : decode cX7_flown 58 = .ok (.aload_n 0, 1) := by decide +kernel
theorem dX7_flown_59 : decode cX7_flown 59 = .ok (.getfield 23, 3) := by decide +kernel
theorem dX7_flown_62 : decode cX7_flown 62 = .ok (.getfield 214, 3) := by decide +kernel
theorem dX7_flown_65 : decode cX7_flown 65 = .ok (.getfield 227, 3) := by decide +kernel
theorem dX7_flown_68 : decode cX7_flown 68 = .ok (.iload_n 3, 1) := by decide +kernel
theorem dX7_flown_69 : decode cX7_flown 69 = .ok (.iaload, 1) := by decide +kernel
theorem dX7_flown_70 : decode cX7_flown 70 = .ok (.aaload, 1) := by decide +kernel
theorem dX7_flown_71 : decode cX7_flown 71 = .ok (.astore 4, 2) := by decide +kernel
theorem dX7_flown_73 : decode cX7_flown 73 = .ok (.aload_n 0, 1) := by decide +kernel
theorem dX7_flown_74 : decode cX7_flown 74 = .ok (.getfield 33, 3) := by decide +kernel
theorem dX7_flown_77 : decode cX7_flown 77 = .ok (.aload 4, 2) := by decide +kernel
theorem dX7_flown_79 : decode cX7_flown 79 = .ok (.getfield 103, 3) := by decide +kernel
theorem dX7_flown_82 : decode cX7_flown 82 = .ok (.iload_n 1, 1) := by decide +kernel
theorem dX7_flown_83 : decode cX7_flown 83 = .ok (.invokevirtual 169, 3) := by decide +kernel
theorem dX7_flown_86 : decode cX7_flown 86 = .ok (.ifCond .ne 6, 3) := by decide +kernel
theorem dX7_flown_89 : decode cX7_flown 89 = .ok (.bipush (-5), 2) := by decide +kernel
theorem dX7_flown_91 : decode cX7_flown 91 = .ok (.ireturn, 1) := by decide +kernel
theorem dX7_flown_92 : decode cX7_flown 92 = .ok (.aload_n 0, 1) := by decide +kernel
theorem dX7_flown_93 : decode cX7_flown 93 = .ok (.getfield 33, 3) := by decide +kernel
theorem dX7_flown_96 : decode cX7_flown 96 = .ok (.aload 4, 2) := by decide +kernel
theorem dX7_flown_98 : decode cX7_flown 98 = .ok (.aload_n 0, 1) := by decide +kernel
theorem dX7_flown_99 : decode cX7_flown 99 = .ok (.getfield 23, 3) := by decide +kernel
theorem dX7_flown_102 : decode cX7_flown 102 = .ok (.getfield 109, 3) := by decide +kernel
theorem dX7_flown_105 : decode cX7_flown 105 = .ok (.aload_n 0, 1) := by decide +kernel
theorem dX7_flown_106 : decode cX7_flown 106 = .ok (.getfield 23, 3) := by decide +kernel
theorem dX7_flown_109 : decode cX7_flown 109 = .ok (.getfield 214, 3) := by decide +kernel
theorem dX7_flown_112 : decode cX7_flown 112 = .ok (.getfield 229, 3) := by decide +kernel
theorem dX7_flown_115 : decode cX7_flown 115 = .ok (.iload_n 3, 1) := by decide +kernel
theorem dX7_flown_116 : decode cX7_flown 116 = .ok (.iaload, 1) := by decide +kernel
theorem dX7_flown_117 : decode cX7_flown 117 = .ok (.invokevirtual 158, 3) := by decide +kernel
theorem dX7_flown_120 : decode cX7_flown 120 = .ok (.iinc 3 1, 3) := by decide +kernel
theorem dX7_flown_123 : decode cX7_flown 123 = .ok (.goto (-86), 3) := by decide +kernel
theorem dX7_flown_126 : decode cX7_flown 126 = .ok (.aload_n 0, 1) := by decide +kernel
theorem dX7_flown_127 : decode cX7_flown 127 = .ok (.getfield 33, 3) := by decide +kernel
theorem dX7_flown_130 : decode cX7_flown 130 = .ok (.aload_n 0, 1) := by decide +kernel
theorem dX7_flown_131 : decode cX7_flown 131 = .ok (.getfield 23, 3) := by decide +kernel
theorem dX7_flown_134 : decode cX7_flown 134 = .ok (.getfield 145, 3) := by decide +kernel
theorem dX7_flown_137 : decode cX7_flown 137 = .ok (.iload_n 1, 1) := by decide +kernel
theorem dX7_flown_138 : decode cX7_flown 138 = .ok (.invokevirtual 169, 3) := by decide +kernel
theorem dX7_flown_141 : decode cX7_flown 141 = .ok (.ifCond .ne 6, 3) := by decide +kernel
theorem dX7_flown_144 : decode cX7_flown 144 = .ok (.bipush (-5), 2) := by decide +kernel
theorem dX7_flown_146 : decode cX7_flown 146 = .ok (.ireturn, 1) := by decide +kernel
theorem dX7_flown_147 : decode cX7_flown 147 = .ok (.iload_n 2, 1) := by decide +kernel
theorem dX7_flown_148 : decode cX7_flown 148 = .ok (.ifCond .ne 13, 3) := by decide +kernel
theorem dX7_flown_151 : decode cX7_flown 151 = .ok (.aload_n 0, 1) := by decide +kernel
theorem dX7_flown_152 : decode cX7_flown 152 = .ok (.getfield 33, 3) := by decide +kernel
theorem dX7_flown_155 : decode cX7_flown 155 = .ok (.getfield 115, 3) := by decide +kernel
theorem dX7_flown_158 : decode cX7_flown 158 = .ok (.goto 21, 3) := by decide +kernel
theorem dX7_flown_161 : decode cX7_flown 161 = .ok (.aload_n 0, 1) := by decide +kernel
theorem dX7_flown_162 : decode cX7_flown 162 = .ok (.getfield 33, 3) := by decide +kernel
theorem dX7_flown_165 : decode cX7_flown 165 = .ok (.getfield 118, 3) := by decide +kernel
theorem dX7_flown_168 : decode cX7_flown 168 = .ok (.aload_n 0, 1) := by decide +kernel
theorem dX7_flown_169 : decode cX7_flown 169 = .ok (.getfield 23, 3) := by decide +kernel
theorem dX7_flown_172 : decode cX7_flown 172 = .ok (.getfield 112, 3) := by decide +kernel
theorem dX7_flown_175 : decode cX7_flown 175 = .ok (.getfield 118, 3) := by decide +kernel
theorem dX7_flown_178 : decode cX7_flown 178 = .ok (.isub, 1) := by decide +kernel
theorem dX7_flown_179 : decode cX7_flown 179 = .ok (.ireturn, 1) := by decide +kernel
theorem dX7_see_0 : decode cX7_see 0 = .ok (.iload_n 1, 1) := by decide +kernel
theorem dX7_see_1 : decode cX7_see 1 = .ok (.bipush (-100), 2) := by decide +kernel
theorem dX7_see_3 : decode cX7_see 3 = .ok (.if_icmp .ne 16, 3) := by decide +kernel
theorem dX7_see_6 : decode cX7_see 6 = .ok (.aload_n 0, 1) := by decide +kernel
theorem dX7_see_7 : decode cX7_see 7 = .ok (.getfield 23, 3) := by decide +kernel
theorem dX7_see_10 : decode cX7_see 10 = .ok (.getfield 232, 3) := by decide +kernel
theorem dX7_see_13 : decode cX7_see 13 = .ok (.iconst 0, 1) := by decide +kernel
theorem dX7_see_14 : decode cX7_see 14 = .ok (.putfield 222, 3) := by decide +kernel
theorem dX7_see_17 : decode cX7_see 17 = .ok (.iconst 0, 1) := by decide +kernel
theorem dX7_see_18 : decode cX7_see 18 = .ok (.ireturn, 1) := by decide +kernel
theorem dX7_see_19 : decode cX7_see 19 = .ok (.iload_n 1, 1) := by decide +kernel
theorem dX7_see_20 : decode cX7_see 20 = .ok (.bipush (-99), 2) := by decide +kernel
theorem dX7_see_22 : decode cX7_see 22 = .ok (.bipush 99, 2) := by decide +kernel
theorem dX7_see_24 : decode cX7_see 24 = .ok (.invokestatic 74, 3) := by decide +kernel
theorem dX7_see_27 : decode cX7_see 27 = .ok (.ifCond .eq 18, 3) := by decide +kernel
theorem dX7_see_30 : decode cX7_see 30 = .ok (.aload_n 0, 1) := by decide +kernel
theorem dX7_see_31 : decode cX7_see 31 = .ok (.getfield 23, 3) := by decide +kernel
theorem dX7_see_34 : decode cX7_see 34 = .ok (.getfield 232, 3) := by decide +kernel
theorem dX7_see_37 : decode cX7_see 37 = .ok (.iconst 0, 1) := by decide +kernel
theorem dX7_see_38 : decode cX7_see 38 = .ok (.iload_n 1, 1) := by decide +kernel
theorem dX7_see_39 : decode cX7_see 39 = .ok (.invokevirtual 235, 3) := by decide +kernel
theorem dX7_see_42 : decode cX7_see 42 = .ok (.goto 5, 3) := by decide +kernel
theorem dX7_see_45 : decode cX7_see 45 = .ok (.bipush (-2), 2) := by decide +kernel
theorem dX7_see_47 : decode cX7_see 47 = .ok (.ireturn, 1) := by decide +kernel
theorem dX7_who_0 : decode cX7_who 0 = .ok (.iconst 0, 1) := by decide +kernel
theorem dX7_who_1 : decode cX7_who 1 = .ok (.istore_n 1, 1) := by decide +kernel
theorem dX7_who_2 : decode cX7_who 2 = .ok (.iconst 0, 1) := by decide +kernel
theorem dX7_who_3 : decode cX7_who 3 = .ok (.istore_n 2, 1) := by decide +kernel
theorem dX7_who_4 : decode cX7_who 4 = .ok (.iload_n 2, 1) := by decide +kernel
theorem dX7_who_5 : decode cX7_who 5 = .ok (.aload_n 0, 1) := by decide +kernel
theorem dX7_who_6 : decode cX7_who 6 = .ok (.getfield 23, 3) := by decide +kernel
theorem dX7_who_9 : decode cX7_who 9 = .ok (.getfield 81, 3) := by decide +kernel
theorem dX7_who_12 : decode cX7_who 12 = .ok (.if_icmp .ge 31, 3) := by decide +kernel
theorem dX7_who_15 : decode cX7_who 15 = .ok (.aload_n 0, 1) := by decide +kernel
theorem dX7_who_16 : decode cX7_who 16 = .ok (.aload_n 0, 1) := by decide +kernel
theorem dX7_who_17 : decode cX7_who 17 = .ok (.getfield 23, 3) := by decide +kernel
theorem dX7_who_20 : decode cX7_who 20 = .ok (.getfield 84, 3) := by decide +kernel
theorem dX7_who_23 : decode cX7_who 23 = .ok (.iload_n 2, 1) := by decide +kernel
theorem dX7_who_24 : decode cX7_who 24 = .ok (.aaload, 1) := by decide +kernel
theorem dX7_who_25 : decode cX7_who 25 = .ok (.invokevirtual 238, 3) := by decide +kernel
theorem dX7_who_28 : decode cX7_who 28 = .ok (.ifCond .eq 9, 3) := by decide +kernel
theorem dX7_who_31 : decode cX7_who 31 = .ok (.iload_n 1, 1) := by decide +kernel
theorem dX7_who_32 : decode cX7_who 32 = .ok (.iconst 1, 1) := by decide +kernel
theorem dX7_who_33 : decode cX7_who 33 = .ok (.iload_n 2, 1) := by decide +kernel
theorem dX7_who_34 : decode cX7_who 34 = .ok (.ishl, 1) := by decide +kernel
theorem dX7_who_35 : decode cX7_who 35 = .ok (.ior, 1) := by decide +kernel
theorem dX7_who_36 : decode cX7_who 36 = .ok (.istore_n 1, 1) := by decide +kernel
theorem dX7_who_37 : decode cX7_who 37 = .ok (.iinc 2 1, 3) := by decide +kernel
theorem dX7_who_40 : decode cX7_who 40 = .ok (.goto (-36), 3) := by decide +kernel
theorem dX7_who_43 : decode cX7_who 43 = .ok (.iload_n 1, 1) := by decide +kernel
theorem dX7_who_44 : decode cX7_who 44 = .ok (.ireturn, 1) := by decide +kernel
theorem dX7_odds_0 : decode cX7_odds 0 = .ok (.iload_n 1, 1) := by decide +kernel
theorem dX7_odds_1 : decode cX7_odds 1 = .ok (.iconst 0, 1) := by decide +kernel
theorem dX7_odds_2 : decode cX7_odds 2 = .ok (.sipush 400, 3) := by decide +kernel
theorem dX7_odds_5 : decode cX7_odds 5 = .ok (.invokestatic 74, 3) := by decide +kernel
theorem dX7_odds_8 : decode cX7_odds 8 = .ok (.ifCond .eq 13, 3) := by decide +kernel
theorem dX7_odds_11 : decode cX7_odds 11 = .ok (.iload_n 2, 1) := by decide +kernel
theorem dX7_odds_12 : decode cX7_odds 12 = .ok (.iconst 0, 1) := by decide +kernel
theorem dX7_odds_13 : decode cX7_odds 13 = .ok (.bipush 60, 2) := by decide +kernel
theorem dX7_odds_15 : decode cX7_odds 15 = .ok (.invokestatic 74, 3) := by decide +kernel
theorem dX7_odds_18 : decode cX7_odds 18 = .ok (.ifCond .ne 7, 3) := by decide +kernel
theorem dX7_odds_21 : decode cX7_odds 21 = .ok (.ldc2_w 242, 3) := by decide +kernel
theorem dX7_odds_24 : decode cX7_odds 24 = .ok (.lreturn, 1) := by decide +kernel
theorem dX7_odds_25 : decode cX7_odds 25 = .ok (.iconst 0, 1) := by decide +kernel
theorem dX7_odds_26 : decode cX7_odds 26 = .ok (.istore 4, 2) := by decide +kernel
theorem dX7_odds_28 : decode cX7_odds 28 = .ok (.iconst 0, 1) := by decide +kernel
theorem dX7_odds_29 : decode cX7_odds 29 = .ok (.istore 5, 2) := by decide +kernel
theorem dX7_odds_31 : decode cX7_odds 31 = .ok (.iload 5, 2) := by decide +kernel
theorem dX7_odds_33 : decode cX7_odds 33 = .ok (.aload_n 0, 1) := by decide +kernel
theorem dX7_odds_34 : decode cX7_odds 34 = .ok (.getfield 23, 3) := by decide +kernel
theorem dX7_odds_37 : decode cX7_odds 37 = .ok (.getfield 81, 3) := by decide +kernel
theorem dX7_odds_40 : decode cX7_odds 40 = .ok (.if_icmp .ge 23, 3) := by decide +kernel
theorem dX7_odds_43 : decode cX7_odds 43 = .ok (.aload_n 0, 1) := by decide +kernel
theorem dX7_odds_44 : decode cX7_odds 44 = .ok (.iload 5, 2) := by decide +kernel
theorem dX7_odds_46 : decode cX7_odds 46 = .ok (.iload_n 2, 1) := by decide +kernel
theorem dX7_odds_47 : decode cX7_odds 47 = .ok (.invokevirtual 173, 3) := by decide +kernel
theorem dX7_odds_50 : decode cX7_odds 50 = .ok (.iload_n 1, 1) := by decide +kernel
theorem dX7_odds_51 : decode cX7_odds 51 = .ok (.if_icmp .lt 6, 3) := by decide +kernel
theorem dX7_odds_54 : decode cX7_odds 54 = .ok (.iinc 4 1, 3) := by decide +kernel
theorem dX7_odds_57 : decode cX7_odds 57 = .ok (.iinc 5 1, 3) := by decide +kernel
theorem dX7_odds_60 : decode cX7_odds 60 = .ok (.goto (-29), 3) := by decide +kernel
theorem dX7_odds_63 : decode cX7_odds 63 = .ok (.iload 4, 2) := by decide +kernel
theorem dX7_odds_65 : decode cX7_odds 65 = .ok (.aload_n 0, 1) := by decide +kernel
theorem dX7_odds_66 : decode cX7_odds 66 = .ok (.getfield 23, 3) := by decide +kernel
theorem dX7_odds_69 : decode cX7_odds 69 = .ok (.getfield 81, 3) := by decide +kernel
theorem dX7_odds_72 : decode cX7_odds 72 = .ok (.iload_n 3, 1) := by decide +kernel
theorem dX7_odds_73 : decode cX7_odds 73 = .ok (.invokestatic 244, 3) := by decide +kernel
theorem dX7_odds_76 : decode cX7_odds 76 = .ok (.lreturn, 1) := by decide +kernel
theorem dX7_mean_0 : decode cX7_mean 0 = .ok (.iload_n 1, 1) := by decide +kernel
theorem dX7_mean_1 : decode cX7_mean 1 = .ok (.iconst 0, 1) := by decide +kernel
theorem dX7_mean_2 : decode cX7_mean 2 = .ok (.bipush 60, 2) := by decide +kernel
theorem dX7_mean_4 : decode cX7_mean 4 = .ok (.invokestatic 74, 3) := by decide +kernel
theorem dX7_mean_7 : decode cX7_mean 7 = .ok (.ifCond .ne 7, 3) := by decide +kernel
theorem dX7_mean_10 : decode cX7_mean 10 = .ok (.ldc2_w 242, 3) := by decide +kernel
theorem dX7_mean_13 : decode cX7_mean 13 = .ok (.lreturn, 1) := by decide +kernel
theorem dX7_mean_14 : decode cX7_mean 14 = .ok (.iconst 0, 1) := by decide +kernel
theorem dX7_mean_15 : decode cX7_mean 15 = .ok (.istore_n 3, 1) := by decide +kernel
theorem dX7_mean_16 : decode cX7_mean 16 = .ok (.iconst 0, 1) := by decide +kernel
theorem dX7_mean_17 : decode cX7_mean 17 = .ok (.istore 4, 2) := by decide +kernel
theorem dX7_mean_19 : decode cX7_mean 19 = .ok (.iload 4, 2) := by decide +kernel
theorem dX7_mean_21 : decode cX7_mean 21 = .ok (.aload_n 0, 1) := by decide +kernel
theorem dX7_mean_22 : decode cX7_mean 22 = .ok (.getfield 23, 3) := by decide +kernel
theorem dX7_mean_25 : decode cX7_mean 25 = .ok (.getfield 81, 3) := by decide +kernel
theorem dX7_mean_28 : decode cX7_mean 28 = .ok (.if_icmp .ge 19, 3) := by decide +kernel
theorem dX7_mean_31 : decode cX7_mean 31 = .ok (.iload_n 3, 1) := by decide +kernel
theorem dX7_mean_32 : decode cX7_mean 32 = .ok (.aload_n 0, 1) := by decide +kernel
theorem dX7_mean_33 : decode cX7_mean 33 = .ok (.iload 4, 2) := by decide +kernel
theorem dX7_mean_35 : decode cX7_mean 35 = .ok (.iload_n 1, 1) := by decide +kernel
theorem dX7_mean_36 : decode cX7_mean 36 = .ok (.invokevirtual 173, 3) := by decide +kernel
theorem dX7_mean_39 : decode cX7_mean 39 = .ok (.iadd, 1) := by decide +kernel
theorem dX7_mean_40 : decode cX7_mean 40 = .ok (.istore_n 3, 1) := by decide +kernel
theorem dX7_mean_41 : decode cX7_mean 41 = .ok (.iinc 4 1, 3) := by decide +kernel
theorem dX7_mean_44 : decode cX7_mean 44 = .ok (.goto (-25), 3) := by decide +kernel
theorem dX7_mean_47 : decode cX7_mean 47 = .ok (.iload_n 3, 1) := by decide +kernel
theorem dX7_mean_48 : decode cX7_mean 48 = .ok (.aload_n 0, 1) := by decide +kernel
theorem dX7_mean_49 : decode cX7_mean 49 = .ok (.getfield 23, 3) := by decide +kernel
theorem dX7_mean_52 : decode cX7_mean 52 = .ok (.getfield 81, 3) := by decide +kernel
theorem dX7_mean_55 : decode cX7_mean 55 = .ok (.iload_n 2, 1) := by decide +kernel
theorem dX7_mean_56 : decode cX7_mean 56 = .ok (.invokestatic 244, 3) := by decide +kernel
theorem dX7_mean_59 : decode cX7_mean 59 = .ok (.lreturn, 1) := by decide +kernel
theorem dX7_book_0 : decode cX7_book 0 = .ok (.aload_n 0, 1) := by decide +kernel
theorem dX7_book_1 : decode cX7_book 1 = .ok (.aload_n 0, 1) := by decide +kernel
theorem dX7_book_2 : decode cX7_book 2 = .ok (.getfield 23, 3) := by decide +kernel
theorem dX7_book_5 : decode cX7_book 5 = .ok (.getfield 248, 3) := by decide +kernel
theorem dX7_book_8 : decode cX7_book 8 = .ok (.iload_n 1, 1) := by decide +kernel
theorem dX7_book_9 : decode cX7_book 9 = .ok (.iload_n 2, 1) := by decide +kernel
theorem dX7_book_10 : decode cX7_book 10 = .ok (.bipush (-99), 2) := by decide +kernel
theorem dX7_book_12 : decode cX7_book 12 = .ok (.bipush 99, 2) := by decide +kernel
theorem dX7_book_14 : decode cX7_book 14 = .ok (.invokevirtual 218, 3) := by decide +kernel
theorem dX7_book_17 : decode cX7_book 17 = .ok (.ireturn, 1) := by decide +kernel
theorem dX7_looked_0 : decode cX7_looked 0 = .ok (.iconst 0, 1) := by decide +kernel
theorem dX7_looked_1 : decode cX7_looked 1 = .ok (.istore_n 1, 1) := by decide +kernel
theorem dX7_looked_2 : decode cX7_looked 2 = .ok (.iload_n 1, 1) := by decide +kernel
theorem dX7_looked_3 : decode cX7_looked 3 = .ok (.aload_n 0, 1) := by decide +kernel
theorem dX7_looked_4 : decode cX7_looked 4 = .ok (.getfield 23, 3) := by decide +kernel
theorem dX7_looked_7 : decode cX7_looked 7 = .ok (.getfield 248, 3) := by decide +kernel
theorem dX7_looked_10 : decode cX7_looked 10 = .ok (.getfield 222, 3) := by decide +kernel
theorem dX7_looked_13 : decode cX7_looked 13 = .ok (.if_icmp .ge 78, 3) := by decide +kernel
theorem dX7_looked_16 : decode cX7_looked 16 = .ok (.aload_n 0, 1) := by decide +kernel
theorem dX7_looked_17 : decode cX7_looked 17 = .ok (.getfield 23, 3) := by decide +kernel
theorem dX7_looked_20 : decode cX7_looked 20 = .ok (.getfield 84, 3) := by decide +kernel
theorem dX7_looked_23 : decode cX7_looked 23 = .ok (.aload_n 0, 1) := by decide +kernel
theorem dX7_looked_24 : decode cX7_looked 24 = .ok (.getfield 23, 3) := by decide +kernel
theorem dX7_looked_27 : decode cX7_looked 27 = .ok (.getfield 248, 3) := by decide +kernel
theorem dX7_looked_30 : decode cX7_looked 30 = .ok (.getfield 227, 3) := by decide +kernel
theorem dX7_looked_33 : decode cX7_looked 33 = .ok (.iload_n 1, 1) := by decide +kernel
theorem dX7_looked_34 : decode cX7_looked 34 = .ok (.iaload, 1) := by decide +kernel
theorem dX7_looked_35 : decode cX7_looked 35 = .ok (.aaload, 1) := by decide +kernel
theorem dX7_looked_36 : decode cX7_looked 36 = .ok (.astore_n 2, 1) := by decide +kernel
theorem dX7_looked_37 : decode cX7_looked 37 = .ok (.aload_n 2, 1) := by decide +kernel
theorem dX7_looked_38 : decode cX7_looked 38 = .ok (.aload_n 0, 1) := by decide +kernel
theorem dX7_looked_39 : decode cX7_looked 39 = .ok (.getfield 23, 3) := by decide +kernel
theorem dX7_looked_42 : decode cX7_looked 42 = .ok (.getfield 109, 3) := by decide +kernel
theorem dX7_looked_45 : decode cX7_looked 45 = .ok (.aload_n 0, 1) := by decide +kernel
theorem dX7_looked_46 : decode cX7_looked 46 = .ok (.getfield 23, 3) := by decide +kernel
theorem dX7_looked_49 : decode cX7_looked 49 = .ok (.getfield 112, 3) := by decide +kernel
theorem dX7_looked_52 : decode cX7_looked 52 = .ok (.getfield 115, 3) := by decide +kernel
theorem dX7_looked_55 : decode cX7_looked 55 = .ok (.aload_n 0, 1) := by decide +kernel
theorem dX7_looked_56 : decode cX7_looked 56 = .ok (.getfield 23, 3) := by decide +kernel
theorem dX7_looked_59 : decode cX7_looked 59 = .ok (.getfield 112, 3) := by decide +kernel
theorem dX7_looked_62 : decode cX7_looked 62 = .ok (.getfield 118, 3) := by decide +kernel
theorem dX7_looked_65 : decode cX7_looked 65 = .ok (.invokevirtual 125, 3) := by decide +kernel
theorem dX7_looked_68 : decode cX7_looked 68 = .ok (.aload_n 0, 1) := by decide +kernel
theorem dX7_looked_69 : decode cX7_looked 69 = .ok (.getfield 23, 3) := by decide +kernel
theorem dX7_looked_72 : decode cX7_looked 72 = .ok (.getfield 248, 3) := by decide +kernel
theorem dX7_looked_75 : decode cX7_looked 75 = .ok (.getfield 229, 3) := by decide +kernel
theorem dX7_looked_78 : decode cX7_looked 78 = .ok (.iload_n 1, 1) := by decide +kernel
theorem dX7_looked_79 : decode cX7_looked 79 = .ok (.iaload, 1) := by decide +kernel
theorem dX7_looked_80 : decode cX7_looked 80 = .ok (.if_icmp .eq 5, 3) := by decide +kernel
theorem dX7_looked_83 : decode cX7_looked 83 = .ok (.iload_n 1, 1) := by decide +kernel
theorem dX7_looked_84 : decode cX7_looked 84 = .ok (.ireturn, 1) := by decide +kernel
theorem dX7_looked_85 : decode cX7_looked 85 = .ok (.iinc 1 1, 3) := by decide +kernel
theorem dX7_looked_88 : decode cX7_looked 88 = .ok (.goto (-86), 3) := by decide +kernel
theorem dX7_looked_91 : decode cX7_looked 91 = .ok (.bipush (-5), 2) := by decide +kernel
theorem dX7_looked_93 : decode cX7_looked 93 = .ok (.ireturn, 1) := by decide +kernel
theorem dX7_judge_0 : decode cX7_judge 0 = .ok (.iload_n 1, 1) := by decide +kernel
theorem dX7_judge_1 : decode cX7_judge 1 = .ok (.invokestatic 251, 3) := by decide +kernel
theorem dX7_judge_4 : decode cX7_judge 4 = .ok (.ifCond .ne 5, 3) := by decide +kernel
theorem dX7_judge_7 : decode cX7_judge 7 = .ok (.iconst (-1), 1) := by decide +kernel
theorem dX7_judge_8 : decode cX7_judge 8 = .ok (.ireturn, 1) := by decide +kernel
theorem dX7_judge_9 : decode cX7_judge 9 = .ok (.aload_n 0, 1) := by decide +kernel
theorem dX7_judge_10 : decode cX7_judge 10 = .ok (.getfield 54, 3) := by decide +kernel
theorem dX7_judge_13 : decode cX7_judge 13 = .ok (.iload_n 1, 1) := by decide +kernel
theorem dX7_judge_14 : decode cX7_judge 14 = .ok (.aaload, 1) := by decide +kernel
theorem dX7_judge_15 : decode cX7_judge 15 = .ok (.astore_n 3, 1) := by decide +kernel
theorem dX7_judge_16 : decode cX7_judge 16 = .ok (.aload_n 3, 1) := by decide +kernel
theorem dX7_judge_17 : decode cX7_judge 17 = .ok (.invokevirtual 254, 3) := by decide +kernel
theorem dX7_judge_20 : decode cX7_judge 20 = .ok (.ifCond .eq 13, 3) := by decide +kernel
theorem dX7_judge_23 : decode cX7_judge 23 = .ok (.aload_n 3, 1) := by decide +kernel
theorem dX7_judge_24 : decode cX7_judge 24 = .ok (.getfield 258, 3) := by decide +kernel
theorem dX7_judge_27 : decode cX7_judge 27 = .ok (.ifCond .eq 6, 3) := by decide +kernel
theorem dX7_judge_30 : decode cX7_judge 30 = .ok (.bipush (-12), 2) := by decide +kernel
theorem dX7_judge_32 : decode cX7_judge 32 = .ok (.ireturn, 1) := by decide +kernel
theorem dX7_judge_33 : decode cX7_judge 33 = .ok (.iconst 0, 1) := by decide +kernel
theorem dX7_judge_34 : decode cX7_judge 34 = .ok (.istore 4, 2) := by decide +kernel
theorem dX7_judge_36 : decode cX7_judge 36 = .ok (.iload 4, 2) := by decide +kernel
theorem dX7_judge_38 : decode cX7_judge 38 = .ok (.aload_n 0, 1) := by decide +kernel
theorem dX7_judge_39 : decode cX7_judge 39 = .ok (.getfield 23, 3) := by decide +kernel
theorem dX7_judge_42 : decode cX7_judge 42 = .ok (.getfield 81, 3) := by decide +kernel
theorem dX7_judge_45 : decode cX7_judge 45 = .ok (.if_icmp .ge 60, 3) := by decide +kernel
theorem dX7_judge_48 : decode cX7_judge 48 = .ok (.iload_n 2, 1) := by decide +kernel
theorem dX7_judge_49 : decode cX7_judge 49 = .ok (.ifCond .lt 14, 3) := by decide +kernel
theorem dX7_judge_52 : decode cX7_judge 52 = .ok (.iload_n 2, 1) := by decide +kernel
theorem dX7_judge_53 : decode cX7_judge 53 = .ok (.aload_n 3, 1) := by decide +kernel
theorem dX7_judge_54 : decode cX7_judge 54 = .ok (.getfield 261, 3) := by decide +kernel
theorem dX7_judge_57 : decode cX7_judge 57 = .ok (.iload 4, 2) := by decide +kernel
theorem dX7_judge_59 : decode cX7_judge 59 = .ok (.isub, 1) := by decide +kernel
theorem dX7_judge_60 : decode cX7_judge 60 = .ok (.if_icmp .lt 9, 3) := by decide +kernel
theorem dX7_judge_63 : decode cX7_judge 63 = .ok (.bipush 100, 2) := by decide +kernel
theorem dX7_judge_65 : decode cX7_judge 65 = .ok (.iload 4, 2) := by decide +kernel
theorem dX7_judge_67 : decode cX7_judge 67 = .ok (.iadd, 1) := by decide +kernel
theorem dX7_judge_68 : decode cX7_judge 68 = .ok (.ireturn, 1) := by decide +kernel
theorem dX7_judge_69 : decode cX7_judge 69 = .ok (.aload_n 3, 1) := by decide +kernel
theorem dX7_judge_70 : decode cX7_judge 70 = .ok (.getfield 264, 3) := by decide +kernel
theorem dX7_judge_73 : decode cX7_judge 73 = .ok (.iload_n 2, 1) := by decide +kernel
theorem dX7_judge_74 : decode cX7_judge 74 = .ok (.iload 4, 2) := by decide +kernel
theorem dX7_judge_76 : decode cX7_judge 76 = .ok (.iadd, 1) := by decide +kernel
theorem dX7_judge_77 : decode cX7_judge 77 = .ok (.laload, 1) := by decide +kernel
theorem dX7_judge_78 : decode cX7_judge 78 = .ok (.aload_n 0, 1) := by decide +kernel
theorem dX7_judge_79 : decode cX7_judge 79 = .ok (.getfield 23, 3) := by decide +kernel
theorem dX7_judge_82 : decode cX7_judge 82 = .ok (.getfield 84, 3) := by decide +kernel
theorem dX7_judge_85 : decode cX7_judge 85 = .ok (.iload 4, 2) := by decide +kernel
theorem dX7_judge_87 : decode cX7_judge 87 = .ok (.aaload, 1) := by decide +kernel
theorem dX7_judge_88 : decode cX7_judge 88 = .ok (.getfield 103, 3) := by decide +kernel
theorem dX7_judge_91 : decode cX7_judge 91 = .ok (.i2l, 1) := by decide +kernel
theorem dX7_judge_92 : decode cX7_judge 92 = .ok (.lcmp, 1) := by decide +kernel
theorem dX7_judge_93 : decode cX7_judge 93 = .ok (.ifCond .eq 6, 3) := by decide +kernel
theorem dX7_judge_96 : decode cX7_judge 96 = .ok (.iload 4, 2) := by decide +kernel
theorem dX7_judge_98 : decode cX7_judge 98 = .ok (.ireturn, 1) := by decide +kernel
theorem dX7_judge_99 : decode cX7_judge 99 = .ok (.iinc 4 1, 3) := by decide +kernel
theorem dX7_judge_102 : decode cX7_judge 102 = .ok (.goto (-66), 3) := by decide +kernel
theorem dX7_judge_105 : decode cX7_judge 105 = .ok (.bipush (-5), 2) := by decide +kernel
theorem dX7_judge_107 : decode cX7_judge 107 = .ok (.ireturn, 1) := by decide +kernel
theorem dX7_image_0 : decode cX7_image 0 = .ok (.aload_n 0, 1) := by decide +kernel
theorem dX7_image_1 : decode cX7_image 1 = .ok (.getfield 27, 3) := by decide +kernel
theorem dX7_image_4 : decode cX7_image 4 = .ok (.aload_n 0, 1) := by decide +kernel
theorem dX7_image_5 : decode cX7_image 5 = .ok (.getfield 23, 3) := by decide +kernel
theorem dX7_image_8 : decode cX7_image 8 = .ok (.invokevirtual 268, 3) := by decide +kernel
theorem dX7_image_11 : decode cX7_image 11 = .ok (.aload_n 0, 1) := by decide +kernel
theorem dX7_image_12 : decode cX7_image 12 = .ok (.iconst 1, 1) := by decide +kernel
theorem dX7_image_13 : decode cX7_image 13 = .ok (.putfield 65, 3) := by decide +kernel
theorem dX7_image_16 : decode cX7_image 16 = .ok (.aload_n 0, 1) := by decide +kernel
theorem dX7_image_17 : decode cX7_image 17 = .ok (.getfield 23, 3) := by decide +kernel
theorem dX7_image_20 : decode cX7_image 20 = .ok (.getfield 81, 3) := by decide +kernel
theorem dX7_image_23 : decode cX7_image 23 = .ok (.ireturn, 1) := by decide +kernel
theorem dX7_undo_0 : decode cX7_undo 0 = .ok (.aload_n 0, 1) := by decide +kernel
theorem dX7_undo_1 : decode cX7_undo 1 = .ok (.getfield 65, 3) := by decide +kernel
theorem dX7_undo_4 : decode cX7_undo 4 = .ok (.ifCond .ne 6, 3) := by decide +kernel
theorem dX7_undo_7 : decode cX7_undo 7 = .ok (.bipush (-3), 2) := by decide +kernel
theorem dX7_undo_9 : decode cX7_undo 9 = .ok (.ireturn, 1) := by decide +kernel
theorem dX7_undo_10 : decode cX7_undo 10 = .ok (.aload_n 0, 1) := by decide +kernel
theorem dX7_undo_11 : decode cX7_undo 11 = .ok (.getfield 23, 3) := by decide +kernel
theorem dX7_undo_14 : decode cX7_undo 14 = .ok (.aload_n 0, 1) := by decide +kernel
theorem dX7_undo_15 : decode cX7_undo 15 = .ok (.getfield 27, 3) := by decide +kernel
theorem dX7_undo_18 : decode cX7_undo 18 = .ok (.invokevirtual 268, 3) := by decide +kernel
theorem dX7_undo_21 : decode cX7_undo 21 = .ok (.aload_n 0, 1) := by decide +kernel
theorem dX7_undo_22 : decode cX7_undo 22 = .ok (.getfield 23, 3) := by decide +kernel
theorem dX7_undo_25 : decode cX7_undo 25 = .ok (.getfield 81, 3) := by decide +kernel
theorem dX7_undo_28 : decode cX7_undo 28 = .ok (.ireturn, 1) := by decide +kernel
theorem dX7_act_0 : decode cX7_act 0 = .ok (.aload_n 0, 1) := by decide +kernel
theorem dX7_act_1 : decode cX7_act 1 = .ok (.iconst 0, 1) := by decide +kernel
theorem dX7_act_2 : decode cX7_act 2 = .ok (.putfield 62, 3) := by decide +kernel
theorem dX7_act_5 : decode cX7_act 5 = .ok (.aload_n 0, 1) := by decide +kernel
theorem dX7_act_6 : decode cX7_act 6 = .ok (.iload_n 1, 1) := by decide +kernel
theorem dX7_act_7 : decode cX7_act 7 = .ok (.invokevirtual 94, 3) := by decide +kernel
theorem dX7_act_10 : decode cX7_act 10 = .ok (.ifCond .ne 5, 3) := by decide +kernel
theorem dX7_act_13 : decode cX7_act 13 = .ok (.iconst 0, 1) := by decide +kernel
theorem dX7_act_14 : decode cX7_act 14 = .ok (.ireturn, 1) := by decide +kernel
theorem dX7_act_15 : decode cX7_act 15 = .ok (.aload_n 0, 1) := by decide +kernel
theorem dX7_act_16 : decode cX7_act 16 = .ok (.getfield 23, 3) := by decide +kernel
theorem dX7_act_19 : decode cX7_act 19 = .ok (.getfield 84, 3) := by decide +kernel
theorem dX7_act_22 : decode cX7_act 22 = .ok (.iload_n 1, 1) := by decide +kernel
theorem dX7_act_23 : decode cX7_act 23 = .ok (.aaload, 1) := by decide +kernel
theorem dX7_act_24 : decode cX7_act 24 = .ok (.astore 4, 2) := by decide +kernel
theorem dX7_act_26 : decode cX7_act 26 = .ok (.iload_n 2, 1) := by decide +kernel
theorem dX7_act_27 : decode cX7_act 27 = .ok (.tableswitch 64 0 2 #[25, 38, 51], 25) := by decide +kernel
theorem dX7_act_52 : decode cX7_act 52 = .ok (.aload_n 0, 1) := by decide +kernel
theorem dX7_act_53 : decode cX7_act 53 = .ok (.aload 4, 2) := by decide +kernel
theorem dX7_act_55 : decode cX7_act 55 = .ok (.aload 4, 2) := by decide +kernel
theorem dX7_act_57 : decode cX7_act 57 = .ok (.getfield 97, 3) := by decide +kernel
theorem dX7_act_60 : decode cX7_act 60 = .ok (.iload_n 3, 1) := by decide +kernel
theorem dX7_act_61 : decode cX7_act 61 = .ok (.invokevirtual 271, 3) := by decide +kernel
theorem dX7_act_64 : decode cX7_act 64 = .ok (.ireturn, 1) := by decide +kernel
theorem dX7_act_65 : decode cX7_act 65 = .ok (.aload_n 0, 1) := by decide +kernel
theorem dX7_act_66 : decode cX7_act 66 = .ok (.aload 4, 2) := by decide +kernel
theorem dX7_act_68 : decode cX7_act 68 = .ok (.aload 4, 2) := by decide +kernel
theorem dX7_act_70 : decode cX7_act 70 = .ok (.getfield 97, 3) := by decide +kernel
theorem dX7_act_73 : decode cX7_act 73 = .ok (.iload_n 3, 1) := by decide +kernel
theorem dX7_act_74 : decode cX7_act 74 = .ok (.invokevirtual 275, 3) := by decide +kernel
theorem dX7_act_77 : decode cX7_act 77 = .ok (.ireturn, 1) := by decide +kernel
theorem dX7_act_78 : decode cX7_act 78 = .ok (.aload_n 0, 1) := by decide +kernel
theorem dX7_act_79 : decode cX7_act 79 = .ok (.aload 4, 2) := by decide +kernel
theorem dX7_act_81 : decode cX7_act 81 = .ok (.aload 4, 2) := by decide +kernel
theorem dX7_act_83 : decode cX7_act 83 = .ok (.getfield 97, 3) := by decide +kernel
theorem dX7_act_86 : decode cX7_act 86 = .ok (.iload_n 3, 1) := by decide +kernel
theorem dX7_act_87 : decode cX7_act 87 = .ok (.invokevirtual 278, 3) := by decide +kernel
theorem dX7_act_90 : decode cX7_act 90 = .ok (.ireturn, 1) := by decide +kernel
theorem dX7_act_91 : decode cX7_act 91 = .ok (.iconst 0, 1) := by decide +kernel
theorem dX7_act_92 : decode cX7_act 92 = .ok (.ireturn, 1) := by decide +kernel
theorem dX7_trace_0 : decode cX7_trace 0 = .ok (.iload_n 1, 1) := by decide +kernel
theorem dX7_trace_1 : decode cX7_trace 1 = .ok (.ifCond .lt 29, 3) := by decide +kernel
theorem dX7_trace_4 : decode cX7_trace 4 = .ok (.iload_n 1, 1) := by decide +kernel
theorem dX7_trace_5 : decode cX7_trace 5 = .ok (.aload_n 0, 1) := by decide +kernel
theorem dX7_trace_6 : decode cX7_trace 6 = .ok (.getfield 62, 3) := by decide +kernel
theorem dX7_trace_9 : decode cX7_trace 9 = .ok (.if_icmp .ge 21, 3) := by decide +kernel
theorem dX7_trace_12 : decode cX7_trace 12 = .ok (.iload_n 1, 1) := by decide +kernel
theorem dX7_trace_13 : decode cX7_trace 13 = .ok (.aload_n 0, 1) := by decide +kernel
theorem dX7_trace_14 : decode cX7_trace 14 = .ok (.getfield 48, 3) := by decide +kernel
theorem dX7_trace_17 : decode cX7_trace 17 = .ok (.arraylength, 1) := by decide +kernel
theorem dX7_trace_18 : decode cX7_trace 18 = .ok (.if_icmp .ge 12, 3) := by decide +kernel
theorem dX7_trace_21 : decode cX7_trace 21 = .ok (.aload_n 0, 1) := by decide +kernel
theorem dX7_trace_22 : decode cX7_trace 22 = .ok (.getfield 48, 3) := by decide +kernel
theorem dX7_trace_25 : decode cX7_trace 25 = .ok (.iload_n 1, 1) := by decide +kernel
theorem dX7_trace_26 : decode cX7_trace 26 = .ok (.iaload, 1) := by decide +kernel
theorem dX7_trace_27 : decode cX7_trace 27 = .ok (.goto 4, 3) := by decide +kernel
theorem dX7_trace_30 : decode cX7_trace 30 = .ok (.iconst (-1), 1) := by decide +kernel
theorem dX7_trace_31 : decode cX7_trace 31 = .ok (.ireturn, 1) := by decide +kernel
theorem dX7_taken_0 : decode cX7_taken 0 = .ok (.iload_n 2, 1) := by decide +kernel
theorem dX7_taken_1 : decode cX7_taken 1 = .ok (.invokestatic 70, 3) := by decide +kernel
theorem dX7_taken_4 : decode cX7_taken 4 = .ok (.ifCond .ne 6, 3) := by decide +kernel
theorem dX7_taken_7 : decode cX7_taken 7 = .ok (.bipush (-2), 2) := by decide +kernel
theorem dX7_taken_9 : decode cX7_taken 9 = .ok (.ireturn, 1) := by decide +kernel
theorem dX7_taken_10 : decode cX7_taken 10 = .ok (.aload_n 0, 1) := by decide +kernel
theorem dX7_taken_11 : decode cX7_taken 11 = .ok (.iload_n 1, 1) := by decide +kernel
theorem dX7_taken_12 : decode cX7_taken 12 = .ok (.invokevirtual 94, 3) := by decide +kernel
theorem dX7_taken_15 : decode cX7_taken 15 = .ok (.ifCond .ne 6, 3) := by decide +kernel
theorem dX7_taken_18 : decode cX7_taken 18 = .ok (.bipush (-11), 2) := by decide +kernel
theorem dX7_taken_20 : decode cX7_taken 20 = .ok (.ireturn, 1) := by decide +kernel
theorem dX7_taken_21 : decode cX7_taken 21 = .ok (.aload_n 0, 1) := by decide +kernel
theorem dX7_taken_22 : decode cX7_taken 22 = .ok (.getfield 23, 3) := by decide +kernel
theorem dX7_taken_25 : decode cX7_taken 25 = .ok (.getfield 84, 3) := by decide +kernel
theorem dX7_taken_28 : decode cX7_taken 28 = .ok (.iload_n 1, 1) := by decide +kernel
theorem dX7_taken_29 : decode cX7_taken 29 = .ok (.aaload, 1) := by decide +kernel
theorem dX7_taken_30 : decode cX7_taken 30 = .ok (.getfield 97, 3) := by decide +kernel
theorem dX7_taken_33 : decode cX7_taken 33 = .ok (.istore_n 3, 1) := by decide +kernel
theorem dX7_taken_34 : decode cX7_taken 34 = .ok (.iconst 0, 1) := by decide +kernel
theorem dX7_taken_35 : decode cX7_taken 35 = .ok (.istore 4, 2) := by decide +kernel
theorem dX7_taken_37 : decode cX7_taken 37 = .ok (.iload 4, 2) := by decide +kernel
theorem dX7_taken_39 : decode cX7_taken 39 = .ok (.getstatic 281, 3) := by decide +kernel
theorem dX7_taken_42 : decode cX7_taken 42 = .ok (.arraylength, 1) := by decide +kernel
theorem dX7_taken_43 : decode cX7_taken 43 = .ok (.if_icmp .ge 27, 3) := by decide +kernel
theorem dX7_taken_46 : decode cX7_taken 46 = .ok (.iload_n 3, 1) := by decide +kernel
theorem dX7_taken_47 : decode cX7_taken 47 = .ok (.invokestatic 70, 3) := by decide +kernel
theorem dX7_taken_50 : decode cX7_taken 50 = .ok (.ifCond .eq 20, 3) := by decide +kernel
theorem dX7_taken_53 : decode cX7_taken 53 = .ok (.iload_n 3, 1) := by decide +kernel
theorem dX7_taken_54 : decode cX7_taken 54 = .ok (.iload_n 2, 1) := by decide +kernel
theorem dX7_taken_55 : decode cX7_taken 55 = .ok (.if_icmp .eq 15, 3) := by decide +kernel
theorem dX7_taken_58 : decode cX7_taken 58 = .ok (.getstatic 281, 3) := by decide +kernel
theorem dX7_taken_61 : decode cX7_taken 61 = .ok (.iload_n 3, 1) := by decide +kernel
theorem dX7_taken_62 : decode cX7_taken 62 = .ok (.iaload, 1) := by decide +kernel
theorem dX7_taken_63 : decode cX7_taken 63 = .ok (.istore_n 3, 1) := by decide +kernel
theorem dX7_taken_64 : decode cX7_taken 64 = .ok (.iinc 4 1, 3) := by decide +kernel
theorem dX7_taken_67 : decode cX7_taken 67 = .ok (.goto (-30), 3) := by decide +kernel
theorem dX7_taken_70 : decode cX7_taken 70 = .ok (.iload_n 3, 1) := by decide +kernel
theorem dX7_taken_71 : decode cX7_taken 71 = .ok (.iload_n 2, 1) := by decide +kernel
theorem dX7_taken_72 : decode cX7_taken 72 = .ok (.if_icmp .ne 18, 3) := by decide +kernel
theorem dX7_taken_75 : decode cX7_taken 75 = .ok (.aload_n 0, 1) := by decide +kernel
theorem dX7_taken_76 : decode cX7_taken 76 = .ok (.getfield 23, 3) := by decide +kernel
theorem dX7_taken_79 : decode cX7_taken 79 = .ok (.getfield 84, 3) := by decide +kernel
theorem dX7_taken_82 : decode cX7_taken 82 = .ok (.iload_n 1, 1) := by decide +kernel
theorem dX7_taken_83 : decode cX7_taken 83 = .ok (.aaload, 1) := by decide +kernel
theorem dX7_taken_84 : decode cX7_taken 84 = .ok (.getfield 97, 3) := by decide +kernel
theorem dX7_taken_87 : decode cX7_taken 87 = .ok (.goto 5, 3) := by decide +kernel
theorem dX7_taken_90 : decode cX7_taken 90 = .ok (.bipush (-12), 2) := by decide +kernel
theorem dX7_taken_92 : decode cX7_taken 92 = .ok (.ireturn, 1) := by decide +kernel
theorem dX7_count_0 : decode cX7_count 0 = .ok (.iload_n 1, 1) := by decide +kernel
theorem dX7_count_1 : decode cX7_count 1 = .ok (.tableswitch 102 0 6 #[43, 51, 56, 67, 78, 89, 97], 43) := by decide +kernel
theorem dX7_count_44 : decode cX7_count 44 = .ok (.aload_n 0, 1) := by decide +kernel
theorem dX7_count_45 : decode cX7_count 45 = .ok (.getfield 23, 3) := by decide +kernel
theorem dX7_count_48 : decode cX7_count 48 = .ok (.getfield 81, 3) := by decide +kernel
theorem dX7_count_51 : decode cX7_count 51 = .ok (.ireturn, 1) := by decide +kernel
theorem dX7_count_52 : decode cX7_count 52 = .ok (.aload_n 0, 1) := by decide +kernel
theorem dX7_count_53 : decode cX7_count 53 = .ok (.getfield 58, 3) := by decide +kernel
theorem dX7_count_56 : decode cX7_count 56 = .ok (.ireturn, 1) := by decide +kernel
theorem dX7_count_57 : decode cX7_count 57 = .ok (.aload_n 0, 1) := by decide +kernel
theorem dX7_count_58 : decode cX7_count 58 = .ok (.getfield 23, 3) := by decide +kernel
theorem dX7_count_61 : decode cX7_count 61 = .ok (.getfield 214, 3) := by decide +kernel
theorem dX7_count_64 : decode cX7_count 64 = .ok (.getfield 222, 3) := by decide +kernel
theorem dX7_count_67 : decode cX7_count 67 = .ok (.ireturn, 1) := by decide +kernel
theorem dX7_count_68 : decode cX7_count 68 = .ok (.aload_n 0, 1) := by decide +kernel
theorem dX7_count_69 : decode cX7_count 69 = .ok (.getfield 23, 3) := by decide +kernel
theorem dX7_count_72 : decode cX7_count 72 = .ok (.getfield 232, 3) := by decide +kernel
theorem dX7_count_75 : decode cX7_count 75 = .ok (.getfield 222, 3) := by decide +kernel
theorem dX7_count_78 : decode cX7_count 78 = .ok (.ireturn, 1) := by decide +kernel
theorem dX7_count_79 : decode cX7_count 79 = .ok (.aload_n 0, 1) := by decide +kernel
theorem dX7_count_80 : decode cX7_count 80 = .ok (.getfield 23, 3) := by decide +kernel
theorem dX7_count_83 : decode cX7_count 83 = .ok (.getfield 248, 3) := by decide +kernel
theorem dX7_count_86 : decode cX7_count 86 = .ok (.getfield 222, 3) := by decide +kernel
theorem dX7_count_89 : decode cX7_count 89 = .ok (.ireturn, 1) := by decide +kernel
theorem dX7_count_90 : decode cX7_count 90 = .ok (.aload_n 0, 1) := by decide +kernel
theorem dX7_count_91 : decode cX7_count 91 = .ok (.getfield 40, 3) := by decide +kernel
theorem dX7_count_94 : decode cX7_count 94 = .ok (.getfield 131, 3) := by decide +kernel
theorem dX7_count_97 : decode cX7_count 97 = .ok (.ireturn, 1) := by decide +kernel
theorem dX7_count_98 : decode cX7_count 98 = .ok (.aload_n 0, 1) := by decide +kernel
theorem dX7_count_99 : decode cX7_count 99 = .ok (.getfield 62, 3) := by decide +kernel
theorem dX7_count_102 : decode cX7_count 102 = .ok (.ireturn, 1) := by decide +kernel
theorem dX7_count_103 : decode cX7_count 103 = .ok (.bipush (-2), 2) := by decide +kernel
theorem dX7_count_105 : decode cX7_count 105 = .ok (.ireturn, 1) := by decide +kernel
theorem dX7_tape_0 : decode cX7_tape 0 = .ok (.iload_n 1, 1) := by decide +kernel
theorem dX7_tape_1 : decode cX7_tape 1 = .ok (.invokestatic 251, 3) := by decide +kernel
theorem dX7_tape_4 : decode cX7_tape 4 = .ok (.ifCond .ne 5, 3) := by decide +kernel
theorem dX7_tape_7 : decode cX7_tape 7 = .ok (.iconst (-1), 1) := by decide +kernel
theorem dX7_tape_8 : decode cX7_tape 8 = .ok (.ireturn, 1) := by decide +kernel
theorem dX7_tape_9 : decode cX7_tape 9 = .ok (.iload_n 2, 1) := by decide +kernel
theorem dX7_tape_10 : decode cX7_tape 10 = .ok (.iconst (-1), 1) := by decide +kernel
theorem dX7_tape_11 : decode cX7_tape 11 = .ok (.if_icmp .ne 16, 3) := by decide +kernel
theorem dX7_tape_14 : decode cX7_tape 14 = .ok (.aload_n 0, 1) := by decide +kernel
theorem dX7_tape_15 : decode cX7_tape 15 = .ok (.getfield 54, 3) := by decide +kernel
theorem dX7_tape_18 : decode cX7_tape 18 = .ok (.iload_n 1, 1) := by decide +kernel
theorem dX7_tape_19 : decode cX7_tape 19 = .ok (.aaload, 1) := by decide +kernel
theorem dX7_tape_20 : decode cX7_tape 20 = .ok (.iload_n 2, 1) := by decide +kernel
theorem dX7_tape_21 : decode cX7_tape 21 = .ok (.iconst 0, 1) := by decide +kernel
theorem dX7_tape_22 : decode cX7_tape 22 = .ok (.invokevirtual 284, 3) := by decide +kernel
theorem dX7_tape_25 : decode cX7_tape 25 = .ok (.iconst 1, 1) := by decide +kernel
theorem dX7_tape_26 : decode cX7_tape 26 = .ok (.ireturn, 1) := by decide +kernel
theorem dX7_tape_27 : decode cX7_tape 27 = .ok (.iload_n 2, 1) := by decide +kernel
theorem dX7_tape_28 : decode cX7_tape 28 = .ok (.iconst 0, 1) := by decide +kernel
theorem dX7_tape_29 : decode cX7_tape 29 = .ok (.iconst 4, 1) := by decide +kernel
theorem dX7_tape_30 : decode cX7_tape 30 = .ok (.invokestatic 74, 3) := by decide +kernel
theorem dX7_tape_33 : decode cX7_tape 33 = .ok (.ifCond .eq 9, 3) := by decide +kernel
theorem dX7_tape_36 : decode cX7_tape 36 = .ok (.iload_n 3, 1) := by decide +kernel
theorem dX7_tape_37 : decode cX7_tape 37 = .ok (.bipush 60, 2) := by decide +kernel
theorem dX7_tape_39 : decode cX7_tape 39 = .ok (.if_icmp .le 6, 3) := by decide +kernel
theorem dX7_tape_42 : decode cX7_tape 42 = .ok (.bipush (-2), 2) := by decide +kernel
theorem dX7_tape_44 : decode cX7_tape 44 = .ok (.ireturn, 1) := by decide +kernel
theorem dX7_tape_45 : decode cX7_tape 45 = .ok (.iload_n 3, 1) := by decide +kernel
theorem dX7_tape_46 : decode cX7_tape 46 = .ok (.ifCond .ge 6, 3) := by decide +kernel
theorem dX7_tape_49 : decode cX7_tape 49 = .ok (.bipush (-14), 2) := by decide +kernel
theorem dX7_tape_51 : decode cX7_tape 51 = .ok (.ireturn, 1) := by decide +kernel
theorem dX7_tape_52 : decode cX7_tape 52 = .ok (.aload_n 0, 1) := by decide +kernel
theorem dX7_tape_53 : decode cX7_tape 53 = .ok (.getfield 54, 3) := by decide +kernel
theorem dX7_tape_56 : decode cX7_tape 56 = .ok (.iload_n 1, 1) := by decide +kernel
theorem dX7_tape_57 : decode cX7_tape 57 = .ok (.aaload, 1) := by decide +kernel
theorem dX7_tape_58 : decode cX7_tape 58 = .ok (.iload_n 2, 1) := by decide +kernel
theorem dX7_tape_59 : decode cX7_tape 59 = .ok (.iload_n 3, 1) := by decide +kernel
theorem dX7_tape_60 : decode cX7_tape 60 = .ok (.invokevirtual 284, 3) := by decide +kernel
theorem dX7_tape_63 : decode cX7_tape 63 = .ok (.iconst 1, 1) := by decide +kernel
theorem dX7_tape_64 : decode cX7_tape 64 = .ok (.ireturn, 1) := by decide +kernel
theorem dX7_item_0 : decode cX7_item 0 = .ok (.iload_n 1, 1) := by decide +kernel
theorem dX7_item_1 : decode cX7_item 1 = .ok (.invokestatic 251, 3) := by decide +kernel
theorem dX7_item_4 : decode cX7_item 4 = .ok (.ifCond .ne 5, 3) := by decide +kernel
theorem dX7_item_7 : decode cX7_item 7 = .ok (.iconst (-1), 1) := by decide +kernel
theorem dX7_item_8 : decode cX7_item 8 = .ok (.ireturn, 1) := by decide +kernel
theorem dX7_item_9 : decode cX7_item 9 = .ok (.aload_n 0, 1) := by decide +kernel
theorem dX7_item_10 : decode cX7_item 10 = .ok (.getfield 54, 3) := by decide +kernel
theorem dX7_item_13 : decode cX7_item 13 = .ok (.iload_n 1, 1) := by decide +kernel
theorem dX7_item_14 : decode cX7_item 14 = .ok (.aaload, 1) := by decide +kernel
theorem dX7_item_15 : decode cX7_item 15 = .ok (.astore 5, 2) := by decide +kernel
theorem dX7_item_17 : decode cX7_item 17 = .ok (.aload 5, 2) := by decide +kernel
theorem dX7_item_19 : decode cX7_item 19 = .ok (.invokevirtual 254, 3) := by decide +kernel
theorem dX7_item_22 : decode cX7_item 22 = .ok (.ifCond .ne 6, 3) := by decide +kernel
theorem dX7_item_25 : decode cX7_item 25 = .ok (.bipush (-11), 2) := by decide +kernel
theorem dX7_item_27 : decode cX7_item 27 = .ok (.ireturn, 1) := by decide +kernel
theorem dX7_item_28 : decode cX7_item 28 = .ok (.iload_n 2, 1) := by decide +kernel
theorem dX7_item_29 : decode cX7_item 29 = .ok (.ifCond .lt 12, 3) := by decide +kernel
theorem dX7_item_32 : decode cX7_item 32 = .ok (.iload_n 2, 1) := by decide +kernel
theorem dX7_item_33 : decode cX7_item 33 = .ok (.aload 5, 2) := by decide +kernel
theorem dX7_item_35 : decode cX7_item 35 = .ok (.getfield 261, 3) := by decide +kernel
theorem dX7_item_38 : decode cX7_item 38 = .ok (.if_icmp .lt 6, 3) := by decide +kernel
theorem dX7_item_41 : decode cX7_item 41 = .ok (.bipush (-13), 2) := by decide +kernel
theorem dX7_item_43 : decode cX7_item 43 = .ok (.ireturn, 1) := by decide +kernel
theorem dX7_item_44 : decode cX7_item 44 = .ok (.aload 5, 2) := by decide +kernel
theorem dX7_item_46 : decode cX7_item 46 = .ok (.getfield 264, 3) := by decide +kernel
theorem dX7_item_49 : decode cX7_item 49 = .ok (.iload_n 2, 1) := by decide +kernel
theorem dX7_item_50 : decode cX7_item 50 = .ok (.aload 5, 2) := by decide +kernel
theorem dX7_item_52 : decode cX7_item 52 = .ok (.lload_n 3, 1) := by decide +kernel
theorem dX7_item_53 : decode cX7_item 53 = .ok (.invokevirtual 287, 3) := by decide +kernel
theorem dX7_item_56 : decode cX7_item 56 = .ok (.lastore, 1) := by decide +kernel
theorem dX7_item_57 : decode cX7_item 57 = .ok (.iconst 1, 1) := by decide +kernel
theorem dX7_item_58 : decode cX7_item 58 = .ok (.ireturn, 1) := by decide +kernel
theorem dX7_read_0 : decode cX7_read 0 = .ok (.iload_n 1, 1) := by decide +kernel
theorem dX7_read_1 : decode cX7_read 1 = .ok (.invokestatic 251, 3) := by decide +kernel
theorem dX7_read_4 : decode cX7_read 4 = .ok (.ifCond .eq 20, 3) := by decide +kernel
theorem dX7_read_7 : decode cX7_read 7 = .ok (.iload_n 2, 1) := by decide +kernel
theorem dX7_read_8 : decode cX7_read 8 = .ok (.ifCond .lt 16, 3) := by decide +kernel
theorem dX7_read_11 : decode cX7_read 11 = .ok (.iload_n 2, 1) := by decide +kernel
theorem dX7_read_12 : decode cX7_read 12 = .ok (.aload_n 0, 1) := by decide +kernel
theorem dX7_read_13 : decode cX7_read 13 = .ok (.getfield 54, 3) := by decide +kernel
theorem dX7_read_16 : decode cX7_read 16 = .ok (.iload_n 1, 1) := by decide +kernel
theorem dX7_read_17 : decode cX7_read 17 = .ok (.aaload, 1) := by decide +kernel
theorem dX7_read_18 : decode cX7_read 18 = .ok (.getfield 261, 3) := by decide +kernel
theorem dX7_read_21 : decode cX7_read 21 = .ok (.if_icmp .lt 7, 3) := by decide +kernel
theorem dX7_read_24 : decode cX7_read 24 = .ok (.ldc2_w 242, 3) := by decide +kernel
theorem dX7_read_27 : decode cX7_read 27 = .ok (.lreturn, 1) := by decide +kernel
theorem dX7_read_28 : decode cX7_read 28 = .ok (.aload_n 0, 1) := by decide +kernel
theorem dX7_read_29 : decode cX7_read 29 = .ok (.getfield 54, 3) := by decide +kernel
theorem dX7_read_32 : decode cX7_read 32 = .ok (.iload_n 1, 1) := by decide +kernel
theorem dX7_read_33 : decode cX7_read 33 = .ok (.aaload, 1) := by decide +kernel
theorem dX7_read_34 : decode cX7_read 34 = .ok (.getfield 264, 3) := by decide +kernel
theorem dX7_read_37 : decode cX7_read 37 = .ok (.iload_n 2, 1) := by decide +kernel
theorem dX7_read_38 : decode cX7_read 38 = .ok (.laload, 1) := by decide +kernel
theorem dX7_read_39 : decode cX7_read 39 = .ok (.lreturn, 1) := by decide +kernel
theorem dX7_shift_0 : decode cX7_shift 0 = .ok (.iload_n 1, 1) := by decide +kernel
theorem dX7_shift_1 : decode cX7_shift 1 = .ok (.invokestatic 251, 3) := by decide +kernel
theorem dX7_shift_4 : decode cX7_shift 4 = .ok (.ifCond .eq 10, 3) := by decide +kernel
theorem dX7_shift_7 : decode cX7_shift 7 = .ok (.iload_n 3, 1) := by decide +kernel
theorem dX7_shift_8 : decode cX7_shift 8 = .ok (.invokestatic 251, 3) := by decide +kernel
theorem dX7_shift_11 : decode cX7_shift 11 = .ok (.ifCond .ne 5, 3) := by decide +kernel
theorem dX7_shift_14 : decode cX7_shift 14 = .ok (.iconst (-1), 1) := by decide +kernel
theorem dX7_shift_15 : decode cX7_shift 15 = .ok (.ireturn, 1) := by decide +kernel
theorem dX7_shift_16 : decode cX7_shift 16 = .ok (.aload_n 0, 1) := by decide +kernel
theorem dX7_shift_17 : decode cX7_shift 17 = .ok (.getfield 54, 3) := by decide +kernel
theorem dX7_shift_20 : decode cX7_shift 20 = .ok (.iload_n 1, 1) := by decide +kernel
theorem dX7_shift_21 : decode cX7_shift 21 = .ok (.aaload, 1) := by decide +kernel
theorem dX7_shift_22 : decode cX7_shift 22 = .ok (.astore 6, 2) := by decide +kernel
theorem dX7_shift_24 : decode cX7_shift 24 = .ok (.aload_n 0, 1) := by decide +kernel
theorem dX7_shift_25 : decode cX7_shift 25 = .ok (.getfield 54, 3) := by decide +kernel
theorem dX7_shift_28 : decode cX7_shift 28 = .ok (.iload_n 3, 1) := by decide +kernel
theorem dX7_shift_29 : decode cX7_shift 29 = .ok (.aaload, 1) := by decide +kernel
theorem dX7_shift_30 : decode cX7_shift 30 = .ok (.astore 7, 2) := by decide +kernel
theorem dX7_shift_32 : decode cX7_shift 32 = .ok (.aload 6, 2) := by decide +kernel
theorem dX7_shift_34 : decode cX7_shift 34 = .ok (.invokevirtual 254, 3) := by decide +kernel
theorem dX7_shift_37 : decode cX7_shift 37 = .ok (.ifCond .eq 11, 3) := by decide +kernel
theorem dX7_shift_40 : decode cX7_shift 40 = .ok (.aload 7, 2) := by decide +kernel
theorem dX7_shift_42 : decode cX7_shift 42 = .ok (.invokevirtual 254, 3) := by decide +kernel
theorem dX7_shift_45 : decode cX7_shift 45 = .ok (.ifCond .ne 6, 3) := by decide +kernel
theorem dX7_shift_48 : decode cX7_shift 48 = .ok (.bipush (-11), 2) := by decide +kernel
theorem dX7_shift_50 : decode cX7_shift 50 = .ok (.ireturn, 1) := by decide +kernel
theorem dX7_shift_51 : decode cX7_shift 51 = .ok (.aload 6, 2) := by decide +kernel
theorem dX7_shift_53 : decode cX7_shift 53 = .ok (.getfield 258, 3) := by decide +kernel
theorem dX7_shift_56 : decode cX7_shift 56 = .ok (.aload 7, 2) := by decide +kernel
theorem dX7_shift_58 : decode cX7_shift 58 = .ok (.getfield 258, 3) := by decide +kernel
theorem dX7_shift_61 : decode cX7_shift 61 = .ok (.if_icmp .eq 6, 3) := by decide +kernel
theorem dX7_shift_64 : decode cX7_shift 64 = .ok (.bipush (-12), 2) := by decide +kernel
theorem dX7_shift_66 : decode cX7_shift 66 = .ok (.ireturn, 1) := by decide +kernel
theorem dX7_shift_67 : decode cX7_shift 67 = .ok (.iload 5, 2) := by decide +kernel
theorem dX7_shift_69 : decode cX7_shift 69 = .ok (.ifCond .lt 37, 3) := by decide +kernel
theorem dX7_shift_72 : decode cX7_shift 72 = .ok (.iload_n 2, 1) := by decide +kernel
theorem dX7_shift_73 : decode cX7_shift 73 = .ok (.ifCond .lt 33, 3) := by decide +kernel
theorem dX7_shift_76 : decode cX7_shift 76 = .ok (.iload 4, 2) := by decide +kernel
theorem dX7_shift_78 : decode cX7_shift 78 = .ok (.ifCond .lt 28, 3) := by decide +kernel
theorem dX7_shift_81 : decode cX7_shift 81 = .ok (.iload_n 2, 1) := by decide +kernel
theorem dX7_shift_82 : decode cX7_shift 82 = .ok (.aload 6, 2) := by decide +kernel
theorem dX7_shift_84 : decode cX7_shift 84 = .ok (.getfield 261, 3) := by decide +kernel
theorem dX7_shift_87 : decode cX7_shift 87 = .ok (.iload 5, 2) := by decide +kernel
theorem dX7_shift_89 : decode cX7_shift 89 = .ok (.isub, 1) := by decide +kernel
theorem dX7_shift_90 : decode cX7_shift 90 = .ok (.if_icmp .gt 16, 3) := by decide +kernel
theorem dX7_shift_93 : decode cX7_shift 93 = .ok (.iload 4, 2) := by decide +kernel
theorem dX7_shift_95 : decode cX7_shift 95 = .ok (.aload 7, 2) := by decide +kernel
theorem dX7_shift_97 : decode cX7_shift 97 = .ok (.getfield 261, 3) := by decide +kernel
theorem dX7_shift_100 : decode cX7_shift 100 = .ok (.iload 5, 2) := by decide +kernel
theorem dX7_shift_102 : decode cX7_shift 102 = .ok (.isub, 1) := by decide +kernel
theorem dX7_shift_103 : decode cX7_shift 103 = .ok (.if_icmp .le 6, 3) := by decide +kernel
theorem dX7_shift_106 : decode cX7_shift 106 = .ok (.bipush (-13), 2) := by decide +kernel
theorem dX7_shift_108 : decode cX7_shift 108 = .ok (.ireturn, 1) := by decide +kernel
theorem dX7_shift_109 : decode cX7_shift 109 = .ok (.aload 6, 2) := by decide +kernel
theorem dX7_shift_111 : decode cX7_shift 111 = .ok (.getfield 264, 3) := by decide +kernel
theorem dX7_shift_114 : decode cX7_shift 114 = .ok (.iload_n 2, 1) := by decide +kernel
theorem dX7_shift_115 : decode cX7_shift 115 = .ok (.aload 7, 2) := by decide +kernel
theorem dX7_shift_117 : decode cX7_shift 117 = .ok (.getfield 264, 3) := by decide +kernel
theorem dX7_shift_120 : decode cX7_shift 120 = .ok (.iload 4, 2) := by decide +kernel
theorem dX7_shift_122 : decode cX7_shift 122 = .ok (.iload 5, 2) := by decide +kernel
theorem dX7_shift_124 : decode cX7_shift 124 = .ok (.invokestatic 291, 3) := by decide +kernel
theorem dX7_shift_127 : decode cX7_shift 127 = .ok (.iload 5, 2) := by decide +kernel
theorem dX7_shift_129 : decode cX7_shift 129 = .ok (.ireturn, 1) := by decide +kernel
theorem dX7_isWithin_0 : decode cX7_isWithin 0 = .ok (.iload_n 0, 1) := by decide +kernel
theorem dX7_isWithin_1 : decode cX7_isWithin 1 = .ok (.iload_n 1, 1) := by decide +kernel
theorem dX7_isWithin_2 : decode cX7_isWithin 2 = .ok (.if_icmp .lt 12, 3) := by decide +kernel
theorem dX7_isWithin_5 : decode cX7_isWithin 5 = .ok (.iload_n 0, 1) := by decide +kernel
theorem dX7_isWithin_6 : decode cX7_isWithin 6 = .ok (.iload_n 2, 1) := by decide +kernel
theorem dX7_isWithin_7 : decode cX7_isWithin 7 = .ok (.if_icmp .gt 7, 3) := by decide +kernel
theorem dX7_isWithin_10 : decode cX7_isWithin 10 = .ok (.iconst 1, 1) := by decide +kernel
theorem dX7_isWithin_11 : decode cX7_isWithin 11 = .ok (.goto 4, 3) := by decide +kernel
theorem dX7_isWithin_14 : decode cX7_isWithin 14 = .ok (.iconst 0, 1) := by decide +kernel
theorem dX7_isWithin_15 : decode cX7_isWithin 15 = .ok (.ireturn, 1) := by decide +kernel
theorem dX7_isKind_0 : decode cX7_isKind 0 = .ok (.iload_n 0, 1) := by decide +kernel
theorem dX7_isKind_1 : decode cX7_isKind 1 = .ok (.iconst 0, 1) := by decide +kernel
theorem dX7_isKind_2 : decode cX7_isKind 2 = .ok (.bipush 6, 2) := by decide +kernel
theorem dX7_isKind_4 : decode cX7_isKind 4 = .ok (.invokestatic 74, 3) := by decide +kernel
theorem dX7_isKind_7 : decode cX7_isKind 7 = .ok (.ireturn, 1) := by decide +kernel
theorem dX7_isMile_0 : decode cX7_isMile 0 = .ok (.iload_n 0, 1) := by decide +kernel
theorem dX7_isMile_1 : decode cX7_isMile 1 = .ok (.iconst 0, 1) := by decide +kernel
theorem dX7_isMile_2 : decode cX7_isMile 2 = .ok (.bipush 99, 2) := by decide +kernel
theorem dX7_isMile_4 : decode cX7_isMile 4 = .ok (.invokestatic 74, 3) := by decide +kernel
theorem dX7_isMile_7 : decode cX7_isMile 7 = .ok (.ireturn, 1) := by decide +kernel
theorem dX7_isPace_0 : decode cX7_isPace 0 = .ok (.iload_n 0, 1) := by decide +kernel
theorem dX7_isPace_1 : decode cX7_isPace 1 = .ok (.iconst 1, 1) := by decide +kernel
theorem dX7_isPace_2 : decode cX7_isPace 2 = .ok (.bipush 9, 2) := by decide +kernel
theorem dX7_isPace_4 : decode cX7_isPace 4 = .ok (.invokestatic 74, 3) := by decide +kernel
theorem dX7_isPace_7 : decode cX7_isPace 7 = .ok (.ireturn, 1) := by decide +kernel
theorem dX7_isTape_0 : decode cX7_isTape 0 = .ok (.iload_n 0, 1) := by decide +kernel
theorem dX7_isTape_1 : decode cX7_isTape 1 = .ok (.iconst 0, 1) := by decide +kernel
theorem dX7_isTape_2 : decode cX7_isTape 2 = .ok (.iconst 5, 1) := by decide +kernel
theorem dX7_isTape_3 : decode cX7_isTape 3 = .ok (.invokestatic 74, 3) := by decide +kernel
theorem dX7_isTape_6 : decode cX7_isTape 6 = .ok (.ireturn, 1) := by decide +kernel
theorem dX7_isLift_0 : decode cX7_isLift 0 = .ok (.iload_n 1, 1) := by decide +kernel
theorem dX7_isLift_1 : decode cX7_isLift 1 = .ok (.ifCond .lt 18, 3) := by decide +kernel
theorem dX7_isLift_4 : decode cX7_isLift 4 = .ok (.iload_n 1, 1) := by decide +kernel
theorem dX7_isLift_5 : decode cX7_isLift 5 = .ok (.aload_n 0, 1) := by decide +kernel
theorem dX7_isLift_6 : decode cX7_isLift 6 = .ok (.getfield 23, 3) := by decide +kernel
theorem dX7_isLift_9 : decode cX7_isLift 9 = .ok (.getfield 81, 3) := by decide +kernel
theorem dX7_isLift_12 : decode cX7_isLift 12 = .ok (.if_icmp .ge 7, 3) := by decide +kernel
theorem dX7_isLift_15 : decode cX7_isLift 15 = .ok (.iconst 1, 1) := by decide +kernel
theorem dX7_isLift_16 : decode cX7_isLift 16 = .ok (.goto 4, 3) := by decide +kernel
theorem dX7_isLift_19 : decode cX7_isLift 19 = .ok (.iconst 0, 1) := by decide +kernel
theorem dX7_isLift_20 : decode cX7_isLift 20 = .ok (.ireturn, 1) := by decide +kernel
theorem dX7_heightFor_0 : decode cX7_heightFor 0 = .ok (.iload_n 2, 1) := by decide +kernel
theorem dX7_heightFor_1 : decode cX7_heightFor 1 = .ok (.iload_n 1, 1) := by decide +kernel
theorem dX7_heightFor_2 : decode cX7_heightFor 2 = .ok (.isub, 1) := by decide +kernel
theorem dX7_heightFor_3 : decode cX7_heightFor 3 = .ok (.invokestatic 177, 3) := by decide +kernel
theorem dX7_heightFor_6 : decode cX7_heightFor 6 = .ok (.iload_n 3, 1) := by decide +kernel
theorem dX7_heightFor_7 : decode cX7_heightFor 7 = .ok (.invokestatic 183, 3) := by decide +kernel
theorem dX7_heightFor_10 : decode cX7_heightFor 10 = .ok (.imul, 1) := by decide +kernel
theorem dX7_heightFor_11 : decode cX7_heightFor 11 = .ok (.aload_n 0, 1) := by decide +kernel
theorem dX7_heightFor_12 : decode cX7_heightFor 12 = .ok (.getfield 23, 3) := by decide +kernel
theorem dX7_heightFor_15 : decode cX7_heightFor 15 = .ok (.getfield 109, 3) := by decide +kernel
theorem dX7_heightFor_18 : decode cX7_heightFor 18 = .ok (.getfield 155, 3) := by decide +kernel
theorem dX7_heightFor_21 : decode cX7_heightFor 21 = .ok (.iadd, 1) := by decide +kernel
theorem dX7_heightFor_22 : decode cX7_heightFor 22 = .ok (.ireturn, 1) := by decide +kernel
theorem dX7_arrivesSafely_0 : decode cX7_arrivesSafely 0 = .ok (.aload_n 0, 1) := by decide +kernel
theorem dX7_arrivesSafely_1 : decode cX7_arrivesSafely 1 = .ok (.getfield 33, 3) := by decide +kernel
theorem dX7_arrivesSafely_4 : decode cX7_arrivesSafely 4 = .ok (.aload_n 0, 1) := by decide +kernel
theorem dX7_arrivesSafely_5 : decode cX7_arrivesSafely 5 = .ok (.getfield 23, 3) := by decide +kernel
theorem dX7_arrivesSafely_8 : decode cX7_arrivesSafely 8 = .ok (.getfield 112, 3) := by decide +kernel
theorem dX7_arrivesSafely_11 : decode cX7_arrivesSafely 11 = .ok (.invokevirtual 165, 3) := by decide +kernel
theorem dX7_arrivesSafely_14 : decode cX7_arrivesSafely 14 = .ok (.aload_n 0, 1) := by decide +kernel
theorem dX7_arrivesSafely_15 : decode cX7_arrivesSafely 15 = .ok (.getfield 33, 3) := by decide +kernel
theorem dX7_arrivesSafely_18 : decode cX7_arrivesSafely 18 = .ok (.iload_n 1, 1) := by decide +kernel
theorem dX7_arrivesSafely_19 : decode cX7_arrivesSafely 19 = .ok (.iload_n 2, 1) := by decide +kernel
theorem dX7_arrivesSafely_20 : decode cX7_arrivesSafely 20 = .ok (.invokevirtual 169, 3) := by decide +kernel
theorem dX7_arrivesSafely_23 : decode cX7_arrivesSafely 23 = .ok (.ifCond .eq 27, 3) := by decide +kernel
theorem dX7_arrivesSafely_26 : decode cX7_arrivesSafely 26 = .ok (.aload_n 0, 1) := by decide +kernel
theorem dX7_arrivesSafely_27 : decode cX7_arrivesSafely 27 = .ok (.getfield 33, 3) := by decide +kernel
theorem dX7_arrivesSafely_30 : decode cX7_arrivesSafely 30 = .ok (.getfield 115, 3) := by decide +kernel
theorem dX7_arrivesSafely_33 : decode cX7_arrivesSafely 33 = .ok (.aload_n 0, 1) := by decide +kernel
theorem dX7_arrivesSafely_34 : decode cX7_arrivesSafely 34 = .ok (.getfield 23, 3) := by decide +kernel
theorem dX7_arrivesSafely_37 : decode cX7_arrivesSafely 37 = .ok (.getfield 109, 3) := by decide +kernel
theorem dX7_arrivesSafely_40 : decode cX7_arrivesSafely 40 = .ok (.getfield 155, 3) := by decide +kernel
theorem dX7_arrivesSafely_43 : decode cX7_arrivesSafely 43 = .ok (.if_icmp .lt 7, 3) := by decide +kernel
theorem dX7_arrivesSafely_46 : decode cX7_arrivesSafely 46 = .ok (.iconst 1, 1) := by decide +kernel
theorem dX7_arrivesSafely_47 : decode cX7_arrivesSafely 47 = .ok (.goto 4, 3) := by decide +kernel
theorem dX7_arrivesSafely_50 : decode cX7_arrivesSafely 50 = .ok (.iconst 0, 1) := by decide +kernel
theorem dX7_arrivesSafely_51 : decode cX7_arrivesSafely 51 = .ok (.ireturn, 1) := by decide +kernel
theorem dX7_heightBehind_0 : decode cX7_heightBehind 0 = .ok (.aload_n 0, 1) := by decide +kernel
theorem dX7_heightBehind_1 : decode cX7_heightBehind 1 = .ok (.getfield 33, 3) := by decide +kernel
theorem dX7_heightBehind_4 : decode cX7_heightBehind 4 = .ok (.aload_n 0, 1) := by decide +kernel
theorem dX7_heightBehind_5 : decode cX7_heightBehind 5 = .ok (.getfield 23, 3) := by decide +kernel
theorem dX7_heightBehind_8 : decode cX7_heightBehind 8 = .ok (.getfield 112, 3) := by decide +kernel
theorem dX7_heightBehind_11 : decode cX7_heightBehind 11 = .ok (.invokevirtual 165, 3) := by decide +kernel
theorem dX7_heightBehind_14 : decode cX7_heightBehind 14 = .ok (.aload_n 0, 1) := by decide +kernel
theorem dX7_heightBehind_15 : decode cX7_heightBehind 15 = .ok (.getfield 33, 3) := by decide +kernel
theorem dX7_heightBehind_18 : decode cX7_heightBehind 18 = .ok (.aload_n 0, 1) := by decide +kernel
theorem dX7_heightBehind_19 : decode cX7_heightBehind 19 = .ok (.getfield 23, 3) := by decide +kernel
theorem dX7_heightBehind_22 : decode cX7_heightBehind 22 = .ok (.getfield 84, 3) := by decide +kernel
theorem dX7_heightBehind_25 : decode cX7_heightBehind 25 = .ok (.iload_n 1, 1) := by decide +kernel
theorem dX7_heightBehind_26 : decode cX7_heightBehind 26 = .ok (.aaload, 1) := by decide +kernel
theorem dX7_heightBehind_27 : decode cX7_heightBehind 27 = .ok (.aload_n 0, 1) := by decide +kernel
theorem dX7_heightBehind_28 : decode cX7_heightBehind 28 = .ok (.getfield 23, 3) := by decide +kernel
theorem dX7_heightBehind_31 : decode cX7_heightBehind 31 = .ok (.getfield 109, 3) := by decide +kernel
theorem dX7_heightBehind_34 : decode cX7_heightBehind 34 = .ok (.iload_n 2, 1) := by decide +kernel
theorem dX7_heightBehind_35 : decode cX7_heightBehind 35 = .ok (.invokevirtual 158, 3) := by decide +kernel
theorem dX7_heightBehind_38 : decode cX7_heightBehind 38 = .ok (.aload_n 0, 1) := by decide +kernel
theorem dX7_heightBehind_39 : decode cX7_heightBehind 39 = .ok (.getfield 33, 3) := by decide +kernel
theorem dX7_heightBehind_42 : decode cX7_heightBehind 42 = .ok (.getfield 115, 3) := by decide +kernel
theorem dX7_heightBehind_45 : decode cX7_heightBehind 45 = .ok (.ireturn, 1) := by decide +kernel
theorem dX7_risesToLeave_0 : decode cX7_risesToLeave 0 = .ok (.aload_n 0, 1) := by decide +kernel
theorem dX7_risesToLeave_1 : decode cX7_risesToLeave 1 = .ok (.getfield 33, 3) := by decide +kernel
theorem dX7_risesToLeave_4 : decode cX7_risesToLeave 4 = .ok (.aload_n 1, 1) := by decide +kernel
theorem dX7_risesToLeave_5 : decode cX7_risesToLeave 5 = .ok (.getfield 103, 3) := by decide +kernel
theorem dX7_risesToLeave_8 : decode cX7_risesToLeave 8 = .ok (.iload_n 2, 1) := by decide +kernel
theorem dX7_risesToLeave_9 : decode cX7_risesToLeave 9 = .ok (.invokevirtual 169, 3) := by decide +kernel
theorem dX7_risesToLeave_12 : decode cX7_risesToLeave 12 = .ok (.ifCond .ne 5, 3) := by decide +kernel
theorem dX7_risesToLeave_15 : decode cX7_risesToLeave 15 = .ok (.iconst 0, 1) := by decide +kernel
theorem dX7_risesToLeave_16 : decode cX7_risesToLeave 16 = .ok (.ireturn, 1) := by decide +kernel
theorem dX7_risesToLeave_17 : decode cX7_risesToLeave 17 = .ok (.aload_n 0, 1) := by decide +kernel
theorem dX7_risesToLeave_18 : decode cX7_risesToLeave 18 = .ok (.aload_n 1, 1) := by decide +kernel
theorem dX7_risesToLeave_19 : decode cX7_risesToLeave 19 = .ok (.getfield 103, 3) := by decide +kernel
theorem dX7_risesToLeave_22 : decode cX7_risesToLeave 22 = .ok (.iload_n 3, 1) := by decide +kernel
theorem dX7_risesToLeave_23 : decode cX7_risesToLeave 23 = .ok (.iload_n 2, 1) := by decide +kernel
theorem dX7_risesToLeave_24 : decode cX7_risesToLeave 24 = .ok (.invokevirtual 192, 3) := by decide +kernel
theorem dX7_risesToLeave_27 : decode cX7_risesToLeave 27 = .ok (.istore 5, 2) := by decide +kernel
theorem dX7_risesToLeave_29 : decode cX7_risesToLeave 29 = .ok (.iconst 0, 1) := by decide +kernel
theorem dX7_risesToLeave_30 : decode cX7_risesToLeave 30 = .ok (.istore 6, 2) := by decide +kernel
theorem dX7_risesToLeave_32 : decode cX7_risesToLeave 32 = .ok (.iload 6, 2) := by decide +kernel
theorem dX7_risesToLeave_34 : decode cX7_risesToLeave 34 = .ok (.iload 4, 2) := by decide +kernel
theorem dX7_risesToLeave_36 : decode cX7_risesToLeave 36 = .ok (.if_icmp .ge 37, 3) := by decide +kernel
theorem dX7_risesToLeave_39 : decode cX7_risesToLeave 39 = .ok (.aload_n 0, 1) := by decide +kernel
theorem dX7_risesToLeave_40 : decode cX7_risesToLeave 40 = .ok (.getfield 33, 3) := by decide +kernel
theorem dX7_risesToLeave_43 : decode cX7_risesToLeave 43 = .ok (.getfield 115, 3) := by decide +kernel
theorem dX7_risesToLeave_46 : decode cX7_risesToLeave 46 = .ok (.iload 5, 2) := by decide +kernel
theorem dX7_risesToLeave_48 : decode cX7_risesToLeave 48 = .ok (.if_icmp .ge 25, 3) := by decide +kernel
theorem dX7_risesToLeave_51 : decode cX7_risesToLeave 51 = .ok (.aload_n 0, 1) := by decide +kernel
theorem dX7_risesToLeave_52 : decode cX7_risesToLeave 52 = .ok (.getfield 33, 3) := by decide +kernel
theorem dX7_risesToLeave_55 : decode cX7_risesToLeave 55 = .ok (.aload_n 1, 1) := by decide +kernel
theorem dX7_risesToLeave_56 : decode cX7_risesToLeave 56 = .ok (.aload_n 0, 1) := by decide +kernel
theorem dX7_risesToLeave_57 : decode cX7_risesToLeave 57 = .ok (.getfield 23, 3) := by decide +kernel
theorem dX7_risesToLeave_60 : decode cX7_risesToLeave 60 = .ok (.getfield 109, 3) := by decide +kernel
theorem dX7_risesToLeave_63 : decode cX7_risesToLeave 63 = .ok (.iconst 1, 1) := by decide +kernel
theorem dX7_risesToLeave_64 : decode cX7_risesToLeave 64 = .ok (.invokevirtual 158, 3) := by decide +kernel
theorem dX7_risesToLeave_67 : decode cX7_risesToLeave 67 = .ok (.iinc 6 1, 3) := by decide +kernel
theorem dX7_risesToLeave_70 : decode cX7_risesToLeave 70 = .ok (.goto (-38), 3) := by decide +kernel
theorem dX7_risesToLeave_73 : decode cX7_risesToLeave 73 = .ok (.aload_n 0, 1) := by decide +kernel
theorem dX7_risesToLeave_74 : decode cX7_risesToLeave 74 = .ok (.getfield 33, 3) := by decide +kernel
theorem dX7_risesToLeave_77 : decode cX7_risesToLeave 77 = .ok (.getfield 115, 3) := by decide +kernel
theorem dX7_risesToLeave_80 : decode cX7_risesToLeave 80 = .ok (.iload 5, 2) := by decide +kernel
theorem dX7_risesToLeave_82 : decode cX7_risesToLeave 82 = .ok (.if_icmp .lt 7, 3) := by decide +kernel
theorem dX7_risesToLeave_85 : decode cX7_risesToLeave 85 = .ok (.iconst 1, 1) := by decide +kernel
theorem dX7_risesToLeave_86 : decode cX7_risesToLeave 86 = .ok (.goto 4, 3) := by decide +kernel
theorem dX7_risesToLeave_89 : decode cX7_risesToLeave 89 = .ok (.iconst 0, 1) := by decide +kernel
theorem dX7_risesToLeave_90 : decode cX7_risesToLeave 90 = .ok (.ireturn, 1) := by decide +kernel
theorem dX7_minutesHome_0 : decode cX7_minutesHome 0 = .ok (.aload_n 0, 1) := by decide +kernel
theorem dX7_minutesHome_1 : decode cX7_minutesHome 1 = .ok (.getfield 33, 3) := by decide +kernel
theorem dX7_minutesHome_4 : decode cX7_minutesHome 4 = .ok (.aload_n 0, 1) := by decide +kernel
theorem dX7_minutesHome_5 : decode cX7_minutesHome 5 = .ok (.getfield 23, 3) := by decide +kernel
theorem dX7_minutesHome_8 : decode cX7_minutesHome 8 = .ok (.getfield 145, 3) := by decide +kernel
theorem dX7_minutesHome_11 : decode cX7_minutesHome 11 = .ok (.iload_n 1, 1) := by decide +kernel
theorem dX7_minutesHome_12 : decode cX7_minutesHome 12 = .ok (.invokevirtual 169, 3) := by decide +kernel
theorem dX7_minutesHome_15 : decode cX7_minutesHome 15 = .ok (.ifCond .eq 24, 3) := by decide +kernel
theorem dX7_minutesHome_18 : decode cX7_minutesHome 18 = .ok (.aload_n 0, 1) := by decide +kernel
theorem dX7_minutesHome_19 : decode cX7_minutesHome 19 = .ok (.getfield 33, 3) := by decide +kernel
theorem dX7_minutesHome_22 : decode cX7_minutesHome 22 = .ok (.getfield 118, 3) := by decide +kernel
theorem dX7_minutesHome_25 : decode cX7_minutesHome 25 = .ok (.aload_n 0, 1) := by decide +kernel
theorem dX7_minutesHome_26 : decode cX7_minutesHome 26 = .ok (.getfield 23, 3) := by decide +kernel
theorem dX7_minutesHome_29 : decode cX7_minutesHome 29 = .ok (.getfield 112, 3) := by decide +kernel
theorem dX7_minutesHome_32 : decode cX7_minutesHome 32 = .ok (.getfield 118, 3) := by decide +kernel
theorem dX7_minutesHome_35 : decode cX7_minutesHome 35 = .ok (.isub, 1) := by decide +kernel
theorem dX7_minutesHome_36 : decode cX7_minutesHome 36 = .ok (.goto 5, 3) := by decide +kernel
theorem dX7_minutesHome_39 : decode cX7_minutesHome 39 = .ok (.ldc 206, 2) := by decide +kernel
theorem dX7_minutesHome_41 : decode cX7_minutesHome 41 = .ok (.ireturn, 1) := by decide +kernel
theorem dX7_minutesByTwo_0 : decode cX7_minutesByTwo 0 = .ok (.aload_n 0, 1) := by decide +kernel
theorem dX7_minutesByTwo_1 : decode cX7_minutesByTwo 1 = .ok (.getfield 33, 3) := by decide +kernel
theorem dX7_minutesByTwo_4 : decode cX7_minutesByTwo 4 = .ok (.aload_n 0, 1) := by decide +kernel
theorem dX7_minutesByTwo_5 : decode cX7_minutesByTwo 5 = .ok (.getfield 23, 3) := by decide +kernel
theorem dX7_minutesByTwo_8 : decode cX7_minutesByTwo 8 = .ok (.getfield 112, 3) := by decide +kernel
theorem dX7_minutesByTwo_11 : decode cX7_minutesByTwo 11 = .ok (.invokevirtual 165, 3) := by decide +kernel
theorem dX7_minutesByTwo_14 : decode cX7_minutesByTwo 14 = .ok (.aload_n 0, 1) := by decide +kernel
theorem dX7_minutesByTwo_15 : decode cX7_minutesByTwo 15 = .ok (.aload_n 1, 1) := by decide +kernel
theorem dX7_minutesByTwo_16 : decode cX7_minutesByTwo 16 = .ok (.iload_n 3, 1) := by decide +kernel
theorem dX7_minutesByTwo_17 : decode cX7_minutesByTwo 17 = .ok (.aload_n 2, 1) := by decide +kernel
theorem dX7_minutesByTwo_18 : decode cX7_minutesByTwo 18 = .ok (.getfield 103, 3) := by decide +kernel
theorem dX7_minutesByTwo_21 : decode cX7_minutesByTwo 21 = .ok (.bipush 40, 2) := by decide +kernel
theorem dX7_minutesByTwo_23 : decode cX7_minutesByTwo 23 = .ok (.invokevirtual 196, 3) := by decide +kernel
theorem dX7_minutesByTwo_26 : decode cX7_minutesByTwo 26 = .ok (.ifCond .ne 6, 3) := by decide +kernel
theorem dX7_minutesByTwo_29 : decode cX7_minutesByTwo 29 = .ok (.ldc 206, 2) := by decide +kernel
theorem dX7_minutesByTwo_31 : decode cX7_minutesByTwo 31 = .ok (.ireturn, 1) := by decide +kernel
theorem dX7_minutesByTwo_32 : decode cX7_minutesByTwo 32 = .ok (.aload_n 0, 1) := by decide +kernel
theorem dX7_minutesByTwo_33 : decode cX7_minutesByTwo 33 = .ok (.aload_n 2, 1) := by decide +kernel
theorem dX7_minutesByTwo_34 : decode cX7_minutesByTwo 34 = .ok (.iload_n 3, 1) := by decide +kernel
theorem dX7_minutesByTwo_35 : decode cX7_minutesByTwo 35 = .ok (.aload_n 0, 1) := by decide +kernel
theorem dX7_minutesByTwo_36 : decode cX7_minutesByTwo 36 = .ok (.getfield 23, 3) := by decide +kernel
theorem dX7_minutesByTwo_39 : decode cX7_minutesByTwo 39 = .ok (.getfield 145, 3) := by decide +kernel
theorem dX7_minutesByTwo_42 : decode cX7_minutesByTwo 42 = .ok (.bipush 40, 2) := by decide +kernel
theorem dX7_minutesByTwo_44 : decode cX7_minutesByTwo 44 = .ok (.invokevirtual 196, 3) := by decide +kernel
theorem dX7_minutesByTwo_47 : decode cX7_minutesByTwo 47 = .ok (.ifCond .ne 6, 3) := by decide +kernel
theorem dX7_minutesByTwo_50 : decode cX7_minutesByTwo 50 = .ok (.ldc 206, 2) := by decide +kernel
theorem dX7_minutesByTwo_52 : decode cX7_minutesByTwo 52 = .ok (.ireturn, 1) := by decide +kernel
theorem dX7_minutesByTwo_53 : decode cX7_minutesByTwo 53 = .ok (.aload_n 0, 1) := by decide +kernel
theorem dX7_minutesByTwo_54 : decode cX7_minutesByTwo 54 = .ok (.iload_n 3, 1) := by decide +kernel
theorem dX7_minutesByTwo_55 : decode cX7_minutesByTwo 55 = .ok (.invokevirtual 200, 3) := by decide +kernel
theorem dX7_minutesByTwo_58 : decode cX7_minutesByTwo 58 = .ok (.ireturn, 1) := by decide +kernel
theorem dX7_quickest_0 : decode cX7_quickest 0 = .ok (.ldc 206, 2) := by decide +kernel
theorem dX7_quickest_2 : decode cX7_quickest 2 = .ok (.istore_n 2, 1) := by decide +kernel
theorem dX7_quickest_3 : decode cX7_quickest 3 = .ok (.iconst 1, 1) := by decide +kernel
theorem dX7_quickest_4 : decode cX7_quickest 4 = .ok (.istore_n 3, 1) := by decide +kernel
theorem dX7_quickest_5 : decode cX7_quickest 5 = .ok (.iload_n 3, 1) := by decide +kernel
theorem dX7_quickest_6 : decode cX7_quickest 6 = .ok (.bipush 9, 2) := by decide +kernel
theorem dX7_quickest_8 : decode cX7_quickest 8 = .ok (.if_icmp .gt 52, 3) := by decide +kernel
theorem dX7_quickest_11 : decode cX7_quickest 11 = .ok (.aload_n 0, 1) := by decide +kernel
theorem dX7_quickest_12 : decode cX7_quickest 12 = .ok (.aload_n 0, 1) := by decide +kernel
theorem dX7_quickest_13 : decode cX7_quickest 13 = .ok (.getfield 23, 3) := by decide +kernel
theorem dX7_quickest_16 : decode cX7_quickest 16 = .ok (.getfield 145, 3) := by decide +kernel
theorem dX7_quickest_19 : decode cX7_quickest 19 = .ok (.iload_n 3, 1) := by decide +kernel
theorem dX7_quickest_20 : decode cX7_quickest 20 = .ok (.invokevirtual 189, 3) := by decide +kernel
theorem dX7_quickest_23 : decode cX7_quickest 23 = .ok (.ifCond .eq 31, 3) := by decide +kernel
theorem dX7_quickest_26 : decode cX7_quickest 26 = .ok (.iload_n 2, 1) := by decide +kernel
theorem dX7_quickest_27 : decode cX7_quickest 27 = .ok (.aload_n 0, 1) := by decide +kernel
theorem dX7_quickest_28 : decode cX7_quickest 28 = .ok (.getfield 33, 3) := by decide +kernel
theorem dX7_quickest_31 : decode cX7_quickest 31 = .ok (.getfield 118, 3) := by decide +kernel
theorem dX7_quickest_34 : decode cX7_quickest 34 = .ok (.aload_n 0, 1) := by decide +kernel
theorem dX7_quickest_35 : decode cX7_quickest 35 = .ok (.getfield 23, 3) := by decide +kernel
theorem dX7_quickest_38 : decode cX7_quickest 38 = .ok (.getfield 112, 3) := by decide +kernel
theorem dX7_quickest_41 : decode cX7_quickest 41 = .ok (.getfield 118, 3) := by decide +kernel
theorem dX7_quickest_44 : decode cX7_quickest 44 = .ok (.isub, 1) := by decide +kernel
theorem dX7_quickest_45 : decode cX7_quickest 45 = .ok (.bipush 100, 2) := by decide +kernel
theorem dX7_quickest_47 : decode cX7_quickest 47 = .ok (.imul, 1) := by decide +kernel
theorem dX7_quickest_48 : decode cX7_quickest 48 = .ok (.iload_n 3, 1) := by decide +kernel
theorem dX7_quickest_49 : decode cX7_quickest 49 = .ok (.iadd, 1) := by decide +kernel
theorem dX7_quickest_50 : decode cX7_quickest 50 = .ok (.invokestatic 186, 3) := by decide +kernel
theorem dX7_quickest_53 : decode cX7_quickest 53 = .ok (.istore_n 2, 1) := by decide +kernel
theorem dX7_quickest_54 : decode cX7_quickest 54 = .ok (.iinc 3 1, 3) := by decide +kernel
theorem dX7_quickest_57 : decode cX7_quickest 57 = .ok (.goto (-52), 3) := by decide +kernel
theorem dX7_quickest_60 : decode cX7_quickest 60 = .ok (.iconst 0, 1) := by decide +kernel
theorem dX7_quickest_61 : decode cX7_quickest 61 = .ok (.istore_n 3, 1) := by decide +kernel
theorem dX7_quickest_62 : decode cX7_quickest 62 = .ok (.iload_n 3, 1) := by decide +kernel
theorem dX7_quickest_63 : decode cX7_quickest 63 = .ok (.aload_n 0, 1) := by decide +kernel
theorem dX7_quickest_64 : decode cX7_quickest 64 = .ok (.getfield 23, 3) := by decide +kernel
theorem dX7_quickest_67 : decode cX7_quickest 67 = .ok (.getfield 81, 3) := by decide +kernel
theorem dX7_quickest_70 : decode cX7_quickest 70 = .ok (.if_icmp .ge 95, 3) := by decide +kernel
theorem dX7_quickest_73 : decode cX7_quickest 73 = .ok (.iconst 1, 1) := by decide +kernel
theorem dX7_quickest_74 : decode cX7_quickest 74 = .ok (.istore 4, 2) := by decide +kernel
theorem dX7_quickest_76 : decode cX7_quickest 76 = .ok (.iload 4, 2) := by decide +kernel
theorem dX7_quickest_78 : decode cX7_quickest 78 = .ok (.bipush 9, 2) := by decide +kernel
theorem dX7_quickest_80 : decode cX7_quickest 80 = .ok (.if_icmp .gt 79, 3) := by decide +kernel
theorem dX7_quickest_83 : decode cX7_quickest 83 = .ok (.iload_n 3, 1) := by decide +kernel
theorem dX7_quickest_84 : decode cX7_quickest 84 = .ok (.iload_n 1, 1) := by decide +kernel
theorem dX7_quickest_85 : decode cX7_quickest 85 = .ok (.if_icmp .eq 74, 3) := by decide +kernel
theorem dX7_quickest_88 : decode cX7_quickest 88 = .ok (.aload_n 0, 1) := by decide +kernel
theorem dX7_quickest_89 : decode cX7_quickest 89 = .ok (.getfield 33, 3) := by decide +kernel
theorem dX7_quickest_92 : decode cX7_quickest 92 = .ok (.aload_n 0, 1) := by decide +kernel
theorem dX7_quickest_93 : decode cX7_quickest 93 = .ok (.getfield 23, 3) := by decide +kernel
theorem dX7_quickest_96 : decode cX7_quickest 96 = .ok (.getfield 112, 3) := by decide +kernel
theorem dX7_quickest_99 : decode cX7_quickest 99 = .ok (.invokevirtual 165, 3) := by decide +kernel
theorem dX7_quickest_102 : decode cX7_quickest 102 = .ok (.aload_n 0, 1) := by decide +kernel
theorem dX7_quickest_103 : decode cX7_quickest 103 = .ok (.aload_n 0, 1) := by decide +kernel
theorem dX7_quickest_104 : decode cX7_quickest 104 = .ok (.getfield 23, 3) := by decide +kernel
theorem dX7_quickest_107 : decode cX7_quickest 107 = .ok (.getfield 84, 3) := by decide +kernel
theorem dX7_quickest_110 : decode cX7_quickest 110 = .ok (.iload_n 3, 1) := by decide +kernel
theorem dX7_quickest_111 : decode cX7_quickest 111 = .ok (.aaload, 1) := by decide +kernel
theorem dX7_quickest_112 : decode cX7_quickest 112 = .ok (.iload 4, 2) := by decide +kernel
theorem dX7_quickest_114 : decode cX7_quickest 114 = .ok (.aload_n 0, 1) := by decide +kernel
theorem dX7_quickest_115 : decode cX7_quickest 115 = .ok (.getfield 23, 3) := by decide +kernel
theorem dX7_quickest_118 : decode cX7_quickest 118 = .ok (.getfield 145, 3) := by decide +kernel
theorem dX7_quickest_121 : decode cX7_quickest 121 = .ok (.bipush 60, 2) := by decide +kernel
theorem dX7_quickest_123 : decode cX7_quickest 123 = .ok (.invokevirtual 196, 3) := by decide +kernel
theorem dX7_quickest_126 : decode cX7_quickest 126 = .ok (.ifCond .eq 27, 3) := by decide +kernel
theorem dX7_quickest_129 : decode cX7_quickest 129 = .ok (.iload_n 2, 1) := by decide +kernel
theorem dX7_quickest_130 : decode cX7_quickest 130 = .ok (.aload_n 0, 1) := by decide +kernel
theorem dX7_quickest_131 : decode cX7_quickest 131 = .ok (.iload 4, 2) := by decide +kernel
theorem dX7_quickest_133 : decode cX7_quickest 133 = .ok (.invokevirtual 200, 3) := by decide +kernel
theorem dX7_quickest_136 : decode cX7_quickest 136 = .ok (.bipush 100, 2) := by decide +kernel
theorem dX7_quickest_138 : decode cX7_quickest 138 = .ok (.imul, 1) := by decide +kernel
theorem dX7_quickest_139 : decode cX7_quickest 139 = .ok (.iload_n 3, 1) := by decide +kernel
theorem dX7_quickest_140 : decode cX7_quickest 140 = .ok (.iconst 1, 1) := by decide +kernel
theorem dX7_quickest_141 : decode cX7_quickest 141 = .ok (.iadd, 1) := by decide +kernel
theorem dX7_quickest_142 : decode cX7_quickest 142 = .ok (.bipush 10, 2) := by decide +kernel
theorem dX7_quickest_144 : decode cX7_quickest 144 = .ok (.imul, 1) := by decide +kernel
theorem dX7_quickest_145 : decode cX7_quickest 145 = .ok (.iadd, 1) := by decide +kernel
theorem dX7_quickest_146 : decode cX7_quickest 146 = .ok (.iload 4, 2) := by decide +kernel
theorem dX7_quickest_148 : decode cX7_quickest 148 = .ok (.iadd, 1) := by decide +kernel
theorem dX7_quickest_149 : decode cX7_quickest 149 = .ok (.invokestatic 186, 3) := by decide +kernel
theorem dX7_quickest_152 : decode cX7_quickest 152 = .ok (.istore_n 2, 1) := by decide +kernel
theorem dX7_quickest_153 : decode cX7_quickest 153 = .ok (.iinc 4 1, 3) := by decide +kernel
theorem dX7_quickest_156 : decode cX7_quickest 156 = .ok (.goto (-80), 3) := by decide +kernel
theorem dX7_quickest_159 : decode cX7_quickest 159 = .ok (.iinc 3 1, 3) := by decide +kernel
theorem dX7_quickest_162 : decode cX7_quickest 162 = .ok (.goto (-100), 3) := by decide +kernel
theorem dX7_quickest_165 : decode cX7_quickest 165 = .ok (.iload_n 2, 1) := by decide +kernel
theorem dX7_quickest_166 : decode cX7_quickest 166 = .ok (.ireturn, 1) := by decide +kernel
theorem dX7_minutesForWorth_0 : decode cX7_minutesForWorth 0 = .ok (.iload_n 0, 1) := by decide +kernel
theorem dX7_minutesForWorth_1 : decode cX7_minutesForWorth 1 = .ok (.ldc 206, 2) := by decide +kernel
theorem dX7_minutesForWorth_3 : decode cX7_minutesForWorth 3 = .ok (.if_icmp .ne 9, 3) := by decide +kernel
theorem dX7_minutesForWorth_6 : decode cX7_minutesForWorth 6 = .ok (.sipush 999, 3) := by decide +kernel
theorem dX7_minutesForWorth_9 : decode cX7_minutesForWorth 9 = .ok (.goto 7, 3) := by decide +kernel
theorem dX7_minutesForWorth_12 : decode cX7_minutesForWorth 12 = .ok (.iload_n 0, 1) := by decide +kernel
theorem dX7_minutesForWorth_13 : decode cX7_minutesForWorth 13 = .ok (.bipush 100, 2) := by decide +kernel
theorem dX7_minutesForWorth_15 : decode cX7_minutesForWorth 15 = .ok (.idiv, 1) := by decide +kernel
theorem dX7_minutesForWorth_16 : decode cX7_minutesForWorth 16 = .ok (.ireturn, 1) := by decide +kernel
theorem dX7_wouldBeAsSeen_0 : decode cX7_wouldBeAsSeen 0 = .ok (.aload_n 0, 1) := by decide +kernel
theorem dX7_wouldBeAsSeen_1 : decode cX7_wouldBeAsSeen 1 = .ok (.getfield 33, 3) := by decide +kernel
theorem dX7_wouldBeAsSeen_4 : decode cX7_wouldBeAsSeen 4 = .ok (.aload_n 0, 1) := by decide +kernel
theorem dX7_wouldBeAsSeen_5 : decode cX7_wouldBeAsSeen 5 = .ok (.getfield 23, 3) := by decide +kernel
theorem dX7_wouldBeAsSeen_8 : decode cX7_wouldBeAsSeen 8 = .ok (.getfield 112, 3) := by decide +kernel
theorem dX7_wouldBeAsSeen_11 : decode cX7_wouldBeAsSeen 11 = .ok (.invokevirtual 165, 3) := by decide +kernel
theorem dX7_wouldBeAsSeen_14 : decode cX7_wouldBeAsSeen 14 = .ok (.iconst 0, 1) := by decide +kernel
theorem dX7_wouldBeAsSeen_15 : decode cX7_wouldBeAsSeen 15 = .ok (.istore_n 2, 1) := by decide +kernel
theorem dX7_wouldBeAsSeen_16 : decode cX7_wouldBeAsSeen 16 = .ok (.iload_n 2, 1) := by decide +kernel
theorem dX7_wouldBeAsSeen_17 : decode cX7_wouldBeAsSeen 17 = .ok (.aload_n 0, 1) := by decide +kernel
theorem dX7_wouldBeAsSeen_18 : decode cX7_wouldBeAsSeen 18 = .ok (.getfield 23, 3) := by decide +kernel
theorem dX7_wouldBeAsSeen_21 : decode cX7_wouldBeAsSeen 21 = .ok (.getfield 232, 3) := by decide +kernel
theorem dX7_wouldBeAsSeen_24 : decode cX7_wouldBeAsSeen 24 = .ok (.getfield 222, 3) := by decide +kernel
theorem dX7_wouldBeAsSeen_27 : decode cX7_wouldBeAsSeen 27 = .ok (.if_icmp .ge 59, 3) := by decide +kernel
theorem dX7_wouldBeAsSeen_30 : decode cX7_wouldBeAsSeen 30 = .ok (.aload_n 0, 1) := by decide +kernel
theorem dX7_wouldBeAsSeen_31 : decode cX7_wouldBeAsSeen 31 = .ok (.getfield 33, 3) := by decide +kernel
theorem dX7_wouldBeAsSeen_34 : decode cX7_wouldBeAsSeen 34 = .ok (.getfield 115, 3) := by decide +kernel
theorem dX7_wouldBeAsSeen_37 : decode cX7_wouldBeAsSeen 37 = .ok (.istore_n 3, 1) := by decide +kernel
theorem dX7_wouldBeAsSeen_38 : decode cX7_wouldBeAsSeen 38 = .ok (.aload_n 0, 1) := by decide +kernel
theorem dX7_wouldBeAsSeen_39 : decode cX7_wouldBeAsSeen 39 = .ok (.getfield 33, 3) := by decide +kernel
theorem dX7_wouldBeAsSeen_42 : decode cX7_wouldBeAsSeen 42 = .ok (.aload_n 1, 1) := by decide +kernel
theorem dX7_wouldBeAsSeen_43 : decode cX7_wouldBeAsSeen 43 = .ok (.aload_n 0, 1) := by decide +kernel
theorem dX7_wouldBeAsSeen_44 : decode cX7_wouldBeAsSeen 44 = .ok (.getfield 23, 3) := by decide +kernel
theorem dX7_wouldBeAsSeen_47 : decode cX7_wouldBeAsSeen 47 = .ok (.getfield 109, 3) := by decide +kernel
theorem dX7_wouldBeAsSeen_50 : decode cX7_wouldBeAsSeen 50 = .ok (.iconst 1, 1) := by decide +kernel
theorem dX7_wouldBeAsSeen_51 : decode cX7_wouldBeAsSeen 51 = .ok (.invokevirtual 158, 3) := by decide +kernel
theorem dX7_wouldBeAsSeen_54 : decode cX7_wouldBeAsSeen 54 = .ok (.aload_n 0, 1) := by decide +kernel
theorem dX7_wouldBeAsSeen_55 : decode cX7_wouldBeAsSeen 55 = .ok (.getfield 33, 3) := by decide +kernel
theorem dX7_wouldBeAsSeen_58 : decode cX7_wouldBeAsSeen 58 = .ok (.getfield 115, 3) := by decide +kernel
theorem dX7_wouldBeAsSeen_61 : decode cX7_wouldBeAsSeen 61 = .ok (.iload_n 3, 1) := by decide +kernel
theorem dX7_wouldBeAsSeen_62 : decode cX7_wouldBeAsSeen 62 = .ok (.isub, 1) := by decide +kernel
theorem dX7_wouldBeAsSeen_63 : decode cX7_wouldBeAsSeen 63 = .ok (.aload_n 0, 1) := by decide +kernel
theorem dX7_wouldBeAsSeen_64 : decode cX7_wouldBeAsSeen 64 = .ok (.getfield 23, 3) := by decide +kernel
theorem dX7_wouldBeAsSeen_67 : decode cX7_wouldBeAsSeen 67 = .ok (.getfield 232, 3) := by decide +kernel
theorem dX7_wouldBeAsSeen_70 : decode cX7_wouldBeAsSeen 70 = .ok (.getfield 229, 3) := by decide +kernel
theorem dX7_wouldBeAsSeen_73 : decode cX7_wouldBeAsSeen 73 = .ok (.iload_n 2, 1) := by decide +kernel
theorem dX7_wouldBeAsSeen_74 : decode cX7_wouldBeAsSeen 74 = .ok (.iaload, 1) := by decide +kernel
theorem dX7_wouldBeAsSeen_75 : decode cX7_wouldBeAsSeen 75 = .ok (.if_icmp .eq 5, 3) := by decide +kernel
theorem dX7_wouldBeAsSeen_78 : decode cX7_wouldBeAsSeen 78 = .ok (.iconst 0, 1) := by decide +kernel
theorem dX7_wouldBeAsSeen_79 : decode cX7_wouldBeAsSeen 79 = .ok (.ireturn, 1) := by decide +kernel
theorem dX7_wouldBeAsSeen_80 : decode cX7_wouldBeAsSeen 80 = .ok (.iinc 2 1, 3) := by decide +kernel
theorem dX7_wouldBeAsSeen_83 : decode cX7_wouldBeAsSeen 83 = .ok (.goto (-67), 3) := by decide +kernel
theorem dX7_wouldBeAsSeen_86 : decode cX7_wouldBeAsSeen 86 = .ok (.iconst 1, 1) := by decide +kernel
theorem dX7_wouldBeAsSeen_87 : decode cX7_wouldBeAsSeen 87 = .ok (.ireturn, 1) := by decide +kernel
theorem dX7_tellRow_0 : decode cX7_tellRow 0 = .ok (.iload_n 2, 1) := by decide +kernel
theorem dX7_tellRow_1 : decode cX7_tellRow 1 = .ok (.iconst (-1), 1) := by decide +kernel
theorem dX7_tellRow_2 : decode cX7_tellRow 2 = .ok (.if_icmp .ne 10, 3) := by decide +kernel
theorem dX7_tellRow_5 : decode cX7_tellRow 5 = .ok (.aload_n 1, 1) := by decide +kernel
theorem dX7_tellRow_6 : decode cX7_tellRow 6 = .ok (.iconst 0, 1) := by decide +kernel
theorem dX7_tellRow_7 : decode cX7_tellRow 7 = .ok (.putfield 222, 3) := by decide +kernel
theorem dX7_tellRow_10 : decode cX7_tellRow 10 = .ok (.iconst 0, 1) := by decide +kernel
theorem dX7_tellRow_11 : decode cX7_tellRow 11 = .ok (.ireturn, 1) := by decide +kernel
theorem dX7_tellRow_12 : decode cX7_tellRow 12 = .ok (.aload_n 0, 1) := by decide +kernel
theorem dX7_tellRow_13 : decode cX7_tellRow 13 = .ok (.iload_n 2, 1) := by decide +kernel
theorem dX7_tellRow_14 : decode cX7_tellRow 14 = .ok (.invokevirtual 94, 3) := by decide +kernel
theorem dX7_tellRow_17 : decode cX7_tellRow 17 = .ok (.ifCond .ne 5, 3) := by decide +kernel
theorem dX7_tellRow_20 : decode cX7_tellRow 20 = .ok (.iconst (-1), 1) := by decide +kernel
theorem dX7_tellRow_21 : decode cX7_tellRow 21 = .ok (.ireturn, 1) := by decide +kernel
theorem dX7_tellRow_22 : decode cX7_tellRow 22 = .ok (.iload_n 3, 1) := by decide +kernel
theorem dX7_tellRow_23 : decode cX7_tellRow 23 = .ok (.iload 4, 2) := by decide +kernel
theorem dX7_tellRow_25 : decode cX7_tellRow 25 = .ok (.iload 5, 2) := by decide +kernel
theorem dX7_tellRow_27 : decode cX7_tellRow 27 = .ok (.invokestatic 74, 3) := by decide +kernel
theorem dX7_tellRow_30 : decode cX7_tellRow 30 = .ok (.ifCond .eq 12, 3) := by decide +kernel
theorem dX7_tellRow_33 : decode cX7_tellRow 33 = .ok (.aload_n 1, 1) := by decide +kernel
theorem dX7_tellRow_34 : decode cX7_tellRow 34 = .ok (.iload_n 2, 1) := by decide +kernel
theorem dX7_tellRow_35 : decode cX7_tellRow 35 = .ok (.iload_n 3, 1) := by decide +kernel
theorem dX7_tellRow_36 : decode cX7_tellRow 36 = .ok (.invokevirtual 235, 3) := by decide +kernel
theorem dX7_tellRow_39 : decode cX7_tellRow 39 = .ok (.goto 5, 3) := by decide +kernel
theorem dX7_tellRow_42 : decode cX7_tellRow 42 = .ok (.bipush (-2), 2) := by decide +kernel
theorem dX7_tellRow_44 : decode cX7_tellRow 44 = .ok (.ireturn, 1) := by decide +kernel
theorem dX7_partOfFraction_0 : decode cX7_partOfFraction 0 = .ok (.iload_n 1, 1) := by decide +kernel
theorem dX7_partOfFraction_1 : decode cX7_partOfFraction 1 = .ok (.ifCond .le 12, 3) := by decide +kernel
theorem dX7_partOfFraction_4 : decode cX7_partOfFraction 4 = .ok (.iload_n 2, 1) := by decide +kernel
theorem dX7_partOfFraction_5 : decode cX7_partOfFraction 5 = .ok (.iconst 0, 1) := by decide +kernel
theorem dX7_partOfFraction_6 : decode cX7_partOfFraction 6 = .ok (.iconst 1, 1) := by decide +kernel
theorem dX7_partOfFraction_7 : decode cX7_partOfFraction 7 = .ok (.invokestatic 74, 3) := by decide +kernel
theorem dX7_partOfFraction_10 : decode cX7_partOfFraction 10 = .ok (.ifCond .ne 7, 3) := by decide +kernel
theorem dX7_partOfFraction_13 : decode cX7_partOfFraction 13 = .ok (.ldc2_w 242, 3) := by decide +kernel
theorem dX7_partOfFraction_16 : decode cX7_partOfFraction 16 = .ok (.lreturn, 1) := by decide +kernel
theorem dX7_partOfFraction_17 : decode cX7_partOfFraction 17 = .ok (.iload_n 2, 1) := by decide +kernel
theorem dX7_partOfFraction_18 : decode cX7_partOfFraction 18 = .ok (.ifCond .ne 7, 3) := by decide +kernel
theorem dX7_partOfFraction_21 : decode cX7_partOfFraction 21 = .ok (.iload_n 0, 1) := by decide +kernel
theorem dX7_partOfFraction_22 : decode cX7_partOfFraction 22 = .ok (.goto 4, 3) := by decide +kernel
theorem dX7_partOfFraction_25 : decode cX7_partOfFraction 25 = .ok (.iload_n 1, 1) := by decide +kernel
theorem dX7_partOfFraction_26 : decode cX7_partOfFraction 26 = .ok (.istore_n 3, 1) := by decide +kernel
theorem dX7_partOfFraction_27 : decode cX7_partOfFraction 27 = .ok (.iload_n 1, 1) := by decide +kernel
theorem dX7_partOfFraction_28 : decode cX7_partOfFraction 28 = .ok (.istore 4, 2) := by decide +kernel
theorem dX7_partOfFraction_30 : decode cX7_partOfFraction 30 = .ok (.iload 4, 2) := by decide +kernel
theorem dX7_partOfFraction_32 : decode cX7_partOfFraction 32 = .ok (.iconst 1, 1) := by decide +kernel
theorem dX7_partOfFraction_33 : decode cX7_partOfFraction 33 = .ok (.if_icmp .le 29, 3) := by decide +kernel
theorem dX7_partOfFraction_36 : decode cX7_partOfFraction 36 = .ok (.iload_n 0, 1) := by decide +kernel
theorem dX7_partOfFraction_37 : decode cX7_partOfFraction 37 = .ok (.iload 4, 2) := by decide +kernel
theorem dX7_partOfFraction_39 : decode cX7_partOfFraction 39 = .ok (.irem, 1) := by decide +kernel
theorem dX7_partOfFraction_40 : decode cX7_partOfFraction 40 = .ok (.ifCond .ne 16, 3) := by decide +kernel
theorem dX7_partOfFraction_43 : decode cX7_partOfFraction 43 = .ok (.iload_n 1, 1) := by decide +kernel
theorem dX7_partOfFraction_44 : decode cX7_partOfFraction 44 = .ok (.iload 4, 2) := by decide +kernel
theorem dX7_partOfFraction_46 : decode cX7_partOfFraction 46 = .ok (.irem, 1) := by decide +kernel
theorem dX7_partOfFraction_47 : decode cX7_partOfFraction 47 = .ok (.ifCond .ne 9, 3) := by decide +kernel
theorem dX7_partOfFraction_50 : decode cX7_partOfFraction 50 = .ok (.iload_n 3, 1) := by decide +kernel
theorem dX7_partOfFraction_51 : decode cX7_partOfFraction 51 = .ok (.iload 4, 2) := by decide +kernel
theorem dX7_partOfFraction_53 : decode cX7_partOfFraction 53 = .ok (.idiv, 1) := by decide +kernel
theorem dX7_partOfFraction_54 : decode cX7_partOfFraction 54 = .ok (.i2l, 1) := by decide +kernel
theorem dX7_partOfFraction_55 : decode cX7_partOfFraction 55 = .ok (.lreturn, 1) := by decide +kernel
theorem dX7_partOfFraction_56 : decode cX7_partOfFraction 56 = .ok (.iinc 4 (-1), 3) := by decide +kernel
theorem dX7_partOfFraction_59 : decode cX7_partOfFraction 59 = .ok (.goto (-29), 3) := by decide +kernel
theorem dX7_partOfFraction_62 : decode cX7_partOfFraction 62 = .ok (.iload_n 3, 1) := by decide +kernel
theorem dX7_partOfFraction_63 : decode cX7_partOfFraction 63 = .ok (.i2l, 1) := by decide +kernel
theorem dX7_partOfFraction_64 : decode cX7_partOfFraction 64 = .ok (.lreturn, 1) := by decide +kernel
theorem dX7_begins_0 : decode cX7_begins 0 = .ok (.aload_n 0, 1) := by decide +kernel
theorem dX7_begins_1 : decode cX7_begins 1 = .ok (.getfield 62, 3) := by decide +kernel
theorem dX7_begins_4 : decode cX7_begins 4 = .ok (.aload_n 0, 1) := by decide +kernel
theorem dX7_begins_5 : decode cX7_begins 5 = .ok (.getfield 48, 3) := by decide +kernel
theorem dX7_begins_8 : decode cX7_begins 8 = .ok (.arraylength, 1) := by decide +kernel
theorem dX7_begins_9 : decode cX7_begins 9 = .ok (.if_icmp .ge 13, 3) := by decide +kernel
theorem dX7_begins_12 : decode cX7_begins 12 = .ok (.aload_n 0, 1) := by decide +kernel
theorem dX7_begins_13 : decode cX7_begins 13 = .ok (.getfield 48, 3) := by decide +kernel
theorem dX7_begins_16 : decode cX7_begins 16 = .ok (.aload_n 0, 1) := by decide +kernel
theorem dX7_begins_17 : decode cX7_begins 17 = .ok (.getfield 62, 3) := by decide +kernel
theorem dX7_begins_20 : decode cX7_begins 20 = .ok (.iload_n 1, 1) := by decide +kernel
theorem dX7_begins_21 : decode cX7_begins 21 = .ok (.iastore, 1) := by decide +kernel
theorem dX7_begins_22 : decode cX7_begins 22 = .ok (.aload_n 0, 1) := by decide +kernel
theorem dX7_begins_23 : decode cX7_begins 23 = .ok (.dup, 1) := by decide +kernel
theorem dX7_begins_24 : decode cX7_begins 24 = .ok (.getfield 62, 3) := by decide +kernel
theorem dX7_begins_27 : decode cX7_begins 27 = .ok (.iconst 1, 1) := by decide +kernel
theorem dX7_begins_28 : decode cX7_begins 28 = .ok (.iadd, 1) := by decide +kernel
theorem dX7_begins_29 : decode cX7_begins 29 = .ok (.putfield 62, 3) := by decide +kernel
theorem dX7_begins_32 : decode cX7_begins 32 = .ok (.return_, 1) := by decide +kernel
theorem dX7_turns_0 : decode cX7_turns 0 = .ok (.iload_n 2, 1) := by decide +kernel
theorem dX7_turns_1 : decode cX7_turns 1 = .ok (.tableswitch 85 2 6 #[35, 85, 51, 35, 66], 35) := by decide +kernel
theorem dX7_turns_36 : decode cX7_turns 36 = .ok (.aload_n 0, 1) := by decide +kernel
theorem dX7_turns_37 : decode cX7_turns 37 = .ok (.bipush 30, 2) := by decide +kernel
theorem dX7_turns_39 : decode cX7_turns 39 = .ok (.invokevirtual 297, 3) := by decide +kernel
theorem dX7_turns_42 : decode cX7_turns 42 = .ok (.aload_n 0, 1) := by decide +kernel
theorem dX7_turns_43 : decode cX7_turns 43 = .ok (.aload_n 1, 1) := by decide +kernel
theorem dX7_turns_44 : decode cX7_turns 44 = .ok (.iconst 0, 1) := by decide +kernel
theorem dX7_turns_45 : decode cX7_turns 45 = .ok (.iload_n 3, 1) := by decide +kernel
theorem dX7_turns_46 : decode cX7_turns 46 = .ok (.iconst 3, 1) := by decide +kernel
theorem dX7_turns_47 : decode cX7_turns 47 = .ok (.imul, 1) := by decide +kernel
theorem dX7_turns_48 : decode cX7_turns 48 = .ok (.invokevirtual 271, 3) := by decide +kernel
theorem dX7_turns_51 : decode cX7_turns 51 = .ok (.ireturn, 1) := by decide +kernel
theorem dX7_turns_52 : decode cX7_turns 52 = .ok (.aload_n 0, 1) := by decide +kernel
theorem dX7_turns_53 : decode cX7_turns 53 = .ok (.bipush 50, 2) := by decide +kernel
theorem dX7_turns_55 : decode cX7_turns 55 = .ok (.invokevirtual 297, 3) := by decide +kernel
theorem dX7_turns_58 : decode cX7_turns 58 = .ok (.aload_n 0, 1) := by decide +kernel
theorem dX7_turns_59 : decode cX7_turns 59 = .ok (.aload_n 1, 1) := by decide +kernel
theorem dX7_turns_60 : decode cX7_turns 60 = .ok (.iconst 1, 1) := by decide +kernel
theorem dX7_turns_61 : decode cX7_turns 61 = .ok (.iload_n 3, 1) := by decide +kernel
theorem dX7_turns_62 : decode cX7_turns 62 = .ok (.invokevirtual 271, 3) := by decide +kernel
theorem dX7_turns_65 : decode cX7_turns 65 = .ok (.ineg, 1) := by decide +kernel
theorem dX7_turns_66 : decode cX7_turns 66 = .ok (.ireturn, 1) := by decide +kernel
theorem dX7_turns_67 : decode cX7_turns 67 = .ok (.aload_n 0, 1) := by decide +kernel
theorem dX7_turns_68 : decode cX7_turns 68 = .ok (.bipush 71, 2) := by decide +kernel
theorem dX7_turns_70 : decode cX7_turns 70 = .ok (.invokevirtual 297, 3) := by decide +kernel
theorem dX7_turns_73 : decode cX7_turns 73 = .ok (.aload_n 0, 1) := by decide +kernel
theorem dX7_turns_74 : decode cX7_turns 74 = .ok (.aload_n 1, 1) := by decide +kernel
theorem dX7_turns_75 : decode cX7_turns 75 = .ok (.iconst 3, 1) := by decide +kernel
theorem dX7_turns_76 : decode cX7_turns 76 = .ok (.iload_n 3, 1) := by decide +kernel
theorem dX7_turns_77 : decode cX7_turns 77 = .ok (.invokevirtual 271, 3) := by decide +kernel
theorem dX7_turns_80 : decode cX7_turns 80 = .ok (.aload_n 1, 1) := by decide +kernel
theorem dX7_turns_81 : decode cX7_turns 81 = .ok (.getfield 100, 3) := by decide +kernel
theorem dX7_turns_84 : decode cX7_turns 84 = .ok (.ixor, 1) := by decide +kernel
theorem dX7_turns_85 : decode cX7_turns 85 = .ok (.ireturn, 1) := by decide +kernel
theorem dX7_turns_86 : decode cX7_turns 86 = .ok (.aload_n 0, 1) := by decide +kernel
theorem dX7_turns_87 : decode cX7_turns 87 = .ok (.bipush 10, 2) := by decide +kernel
theorem dX7_turns_89 : decode cX7_turns 89 = .ok (.invokevirtual 297, 3) := by decide +kernel
theorem dX7_turns_92 : decode cX7_turns 92 = .ok (.iload_n 3, 1) := by decide +kernel
theorem dX7_turns_93 : decode cX7_turns 93 = .ok (.aload_n 1, 1) := by decide +kernel
theorem dX7_turns_94 : decode cX7_turns 94 = .ok (.getfield 301, 3) := by decide +kernel
theorem dX7_turns_97 : decode cX7_turns 97 = .ok (.iadd, 1) := by decide +kernel
theorem dX7_turns_98 : decode cX7_turns 98 = .ok (.ireturn, 1) := by decide +kernel
theorem dX7_climbs_0 : decode cX7_climbs 0 = .ok (.iload_n 2, 1) := by decide +kernel
theorem dX7_climbs_1 : decode cX7_climbs 1 = .ok (.lookupswitch 90 #[(1, 35), (4, 52), (6, 68)], 35) := by decide +kernel
theorem dX7_climbs_36 : decode cX7_climbs 36 = .ok (.aload_n 0, 1) := by decide +kernel
theorem dX7_climbs_37 : decode cX7_climbs 37 = .ok (.bipush 20, 2) := by decide +kernel
theorem dX7_climbs_39 : decode cX7_climbs 39 = .ok (.invokevirtual 297, 3) := by decide +kernel
theorem dX7_climbs_42 : decode cX7_climbs 42 = .ok (.aload_n 0, 1) := by decide +kernel
theorem dX7_climbs_43 : decode cX7_climbs 43 = .ok (.aload_n 1, 1) := by decide +kernel
theorem dX7_climbs_44 : decode cX7_climbs 44 = .ok (.iconst 0, 1) := by decide +kernel
theorem dX7_climbs_45 : decode cX7_climbs 45 = .ok (.iload_n 3, 1) := by decide +kernel
theorem dX7_climbs_46 : decode cX7_climbs 46 = .ok (.invokevirtual 275, 3) := by decide +kernel
theorem dX7_climbs_49 : decode cX7_climbs 49 = .ok (.bipush 6, 2) := by decide +kernel
theorem dX7_climbs_51 : decode cX7_climbs 51 = .ok (.ixor, 1) := by decide +kernel
theorem dX7_climbs_52 : decode cX7_climbs 52 = .ok (.ireturn, 1) := by decide +kernel
theorem dX7_climbs_53 : decode cX7_climbs 53 = .ok (.aload_n 0, 1) := by decide +kernel
theorem dX7_climbs_54 : decode cX7_climbs 54 = .ok (.bipush 51, 2) := by decide +kernel
theorem dX7_climbs_56 : decode cX7_climbs 56 = .ok (.invokevirtual 297, 3) := by decide +kernel
theorem dX7_climbs_59 : decode cX7_climbs 59 = .ok (.aload_n 0, 1) := by decide +kernel
theorem dX7_climbs_60 : decode cX7_climbs 60 = .ok (.aload_n 1, 1) := by decide +kernel
theorem dX7_climbs_61 : decode cX7_climbs 61 = .ok (.iconst 1, 1) := by decide +kernel
theorem dX7_climbs_62 : decode cX7_climbs 62 = .ok (.iload_n 3, 1) := by decide +kernel
theorem dX7_climbs_63 : decode cX7_climbs 63 = .ok (.iconst 1, 1) := by decide +kernel
theorem dX7_climbs_64 : decode cX7_climbs 64 = .ok (.iadd, 1) := by decide +kernel
theorem dX7_climbs_65 : decode cX7_climbs 65 = .ok (.invokevirtual 275, 3) := by decide +kernel
theorem dX7_climbs_68 : decode cX7_climbs 68 = .ok (.ireturn, 1) := by decide +kernel
theorem dX7_climbs_69 : decode cX7_climbs 69 = .ok (.aload_n 0, 1) := by decide +kernel
theorem dX7_climbs_70 : decode cX7_climbs 70 = .ok (.bipush 70, 2) := by decide +kernel
theorem dX7_climbs_72 : decode cX7_climbs 72 = .ok (.invokevirtual 297, 3) := by decide +kernel
theorem dX7_climbs_75 : decode cX7_climbs 75 = .ok (.aload_n 0, 1) := by decide +kernel
theorem dX7_climbs_76 : decode cX7_climbs 76 = .ok (.aload_n 1, 1) := by decide +kernel
theorem dX7_climbs_77 : decode cX7_climbs 77 = .ok (.iconst 3, 1) := by decide +kernel
theorem dX7_climbs_78 : decode cX7_climbs 78 = .ok (.iload_n 3, 1) := by decide +kernel
theorem dX7_climbs_79 : decode cX7_climbs 79 = .ok (.invokevirtual 275, 3) := by decide +kernel
theorem dX7_climbs_82 : decode cX7_climbs 82 = .ok (.aload_n 0, 1) := by decide +kernel
theorem dX7_climbs_83 : decode cX7_climbs 83 = .ok (.aload_n 1, 1) := by decide +kernel
theorem dX7_climbs_84 : decode cX7_climbs 84 = .ok (.iconst 3, 1) := by decide +kernel
theorem dX7_climbs_85 : decode cX7_climbs 85 = .ok (.iconst 2, 1) := by decide +kernel
theorem dX7_climbs_86 : decode cX7_climbs 86 = .ok (.invokevirtual 271, 3) := by decide +kernel
theorem dX7_climbs_89 : decode cX7_climbs 89 = .ok (.iadd, 1) := by decide +kernel
theorem dX7_climbs_90 : decode cX7_climbs 90 = .ok (.ireturn, 1) := by decide +kernel
theorem dX7_climbs_91 : decode cX7_climbs 91 = .ok (.aload_n 0, 1) := by decide +kernel
theorem dX7_climbs_92 : decode cX7_climbs 92 = .ok (.bipush 11, 2) := by decide +kernel
theorem dX7_climbs_94 : decode cX7_climbs 94 = .ok (.invokevirtual 297, 3) := by decide +kernel
theorem dX7_climbs_97 : decode cX7_climbs 97 = .ok (.aload_n 0, 1) := by decide +kernel
theorem dX7_climbs_98 : decode cX7_climbs 98 = .ok (.aload_n 1, 1) := by decide +kernel
theorem dX7_climbs_99 : decode cX7_climbs 99 = .ok (.aload_n 1, 1) := by decide +kernel
theorem dX7_climbs_100 : decode cX7_climbs 100 = .ok (.getfield 97, 3) := by decide +kernel
theorem dX7_climbs_103 : decode cX7_climbs 103 = .ok (.iload_n 3, 1) := by decide +kernel
theorem dX7_climbs_104 : decode cX7_climbs 104 = .ok (.invokevirtual 271, 3) := by decide +kernel
theorem dX7_climbs_107 : decode cX7_climbs 107 = .ok (.aload_n 1, 1) := by decide +kernel
theorem dX7_climbs_108 : decode cX7_climbs 108 = .ok (.getfield 100, 3) := by decide +kernel
theorem dX7_climbs_111 : decode cX7_climbs 111 = .ok (.isub, 1) := by decide +kernel
theorem dX7_climbs_112 : decode cX7_climbs 112 = .ok (.ireturn, 1) := by decide +kernel
theorem dX7_tells_0 : decode cX7_tells 0 = .ok (.iload_n 2, 1) := by decide +kernel
theorem dX7_tells_1 : decode cX7_tells 1 = .ok (.tableswitch 75 3 6 #[31, 75, 56, 31], 31) := by decide +kernel
theorem dX7_tells_32 : decode cX7_tells 32 = .ok (.aload_n 0, 1) := by decide +kernel
theorem dX7_tells_33 : decode cX7_tells 33 = .ok (.bipush 40, 2) := by decide +kernel
theorem dX7_tells_35 : decode cX7_tells 35 = .ok (.invokevirtual 297, 3) := by decide +kernel
theorem dX7_tells_38 : decode cX7_tells 38 = .ok (.aload_n 0, 1) := by decide +kernel
theorem dX7_tells_39 : decode cX7_tells 39 = .ok (.aload_n 1, 1) := by decide +kernel
theorem dX7_tells_40 : decode cX7_tells 40 = .ok (.iconst 0, 1) := by decide +kernel
theorem dX7_tells_41 : decode cX7_tells 41 = .ok (.iload_n 3, 1) := by decide +kernel
theorem dX7_tells_42 : decode cX7_tells 42 = .ok (.invokevirtual 278, 3) := by decide +kernel
theorem dX7_tells_45 : decode cX7_tells 45 = .ok (.aload_n 0, 1) := by decide +kernel
theorem dX7_tells_46 : decode cX7_tells 46 = .ok (.aload_n 1, 1) := by decide +kernel
theorem dX7_tells_47 : decode cX7_tells 47 = .ok (.aload_n 1, 1) := by decide +kernel
theorem dX7_tells_48 : decode cX7_tells 48 = .ok (.getfield 97, 3) := by decide +kernel
theorem dX7_tells_51 : decode cX7_tells 51 = .ok (.iconst 1, 1) := by decide +kernel
theorem dX7_tells_52 : decode cX7_tells 52 = .ok (.invokevirtual 275, 3) := by decide +kernel
theorem dX7_tells_55 : decode cX7_tells 55 = .ok (.iadd, 1) := by decide +kernel
theorem dX7_tells_56 : decode cX7_tells 56 = .ok (.ireturn, 1) := by decide +kernel
theorem dX7_tells_57 : decode cX7_tells 57 = .ok (.aload_n 0, 1) := by decide +kernel
theorem dX7_tells_58 : decode cX7_tells 58 = .ok (.bipush 60, 2) := by decide +kernel
theorem dX7_tells_60 : decode cX7_tells 60 = .ok (.invokevirtual 297, 3) := by decide +kernel
theorem dX7_tells_63 : decode cX7_tells 63 = .ok (.aload_n 0, 1) := by decide +kernel
theorem dX7_tells_64 : decode cX7_tells 64 = .ok (.aload_n 1, 1) := by decide +kernel
theorem dX7_tells_65 : decode cX7_tells 65 = .ok (.iconst 2, 1) := by decide +kernel
theorem dX7_tells_66 : decode cX7_tells 66 = .ok (.iload_n 3, 1) := by decide +kernel
theorem dX7_tells_67 : decode cX7_tells 67 = .ok (.aload_n 1, 1) := by decide +kernel
theorem dX7_tells_68 : decode cX7_tells 68 = .ok (.getfield 301, 3) := by decide +kernel
theorem dX7_tells_71 : decode cX7_tells 71 = .ok (.isub, 1) := by decide +kernel
theorem dX7_tells_72 : decode cX7_tells 72 = .ok (.invokevirtual 278, 3) := by decide +kernel
theorem dX7_tells_75 : decode cX7_tells 75 = .ok (.ireturn, 1) := by decide +kernel
theorem dX7_tells_76 : decode cX7_tells 76 = .ok (.aload_n 0, 1) := by decide +kernel
theorem dX7_tells_77 : decode cX7_tells 77 = .ok (.bipush 12, 2) := by decide +kernel
theorem dX7_tells_79 : decode cX7_tells 79 = .ok (.invokevirtual 297, 3) := by decide +kernel
theorem dX7_tells_82 : decode cX7_tells 82 = .ok (.aload_n 0, 1) := by decide +kernel
theorem dX7_tells_83 : decode cX7_tells 83 = .ok (.aload_n 1, 1) := by decide +kernel
theorem dX7_tells_84 : decode cX7_tells 84 = .ok (.aload_n 1, 1) := by decide +kernel
theorem dX7_tells_85 : decode cX7_tells 85 = .ok (.getfield 97, 3) := by decide +kernel
theorem dX7_tells_88 : decode cX7_tells 88 = .ok (.iload_n 3, 1) := by decide +kernel
theorem dX7_tells_89 : decode cX7_tells 89 = .ok (.invokevirtual 275, 3) := by decide +kernel
theorem dX7_tells_92 : decode cX7_tells 92 = .ok (.iconst 2, 1) := by decide +kernel
theorem dX7_tells_93 : decode cX7_tells 93 = .ok (.imul, 1) := by decide +kernel
theorem dX7_tells_94 : decode cX7_tells 94 = .ok (.ireturn, 1) := by decide +kernel
theorem dX8_init_0 : decode cX8_init 0 = .ok (.aload_n 0, 1) := by decide +kernel
theorem dX8_init_1 : decode cX8_init 1 = .ok (.invokespecial 1, 3) := by decide +kernel
theorem dX8_init_4 : decode cX8_init 4 = .ok (.aload_n 0, 1) := by decide +kernel
theorem dX8_init_5 : decode cX8_init 5 = .ok (.iconst 0, 1) := by decide +kernel
theorem dX8_init_6 : decode cX8_init 6 = .ok (.putfield 7, 3) := by decide +kernel
theorem dX8_init_9 : decode cX8_init 9 = .ok (.aload_n 0, 1) := by decide +kernel
theorem dX8_init_10 : decode cX8_init 10 = .ok (.iconst 0, 1) := by decide +kernel
theorem dX8_init_11 : decode cX8_init 11 = .ok (.putfield 13, 3) := by decide +kernel
theorem dX8_init_14 : decode cX8_init 14 = .ok (.aload_n 0, 1) := by decide +kernel
theorem dX8_init_15 : decode cX8_init 15 = .ok (.iconst 0, 1) := by decide +kernel
theorem dX8_init_16 : decode cX8_init 16 = .ok (.putfield 16, 3) := by decide +kernel
theorem dX8_init_19 : decode cX8_init 19 = .ok (.aload_n 0, 1) := by decide +kernel
theorem dX8_init_20 : decode cX8_init 20 = .ok (.bipush 100, 2) := by decide +kernel
theorem dX8_init_22 : decode cX8_init 22 = .ok (.putfield 19, 3) := by decide +kernel
theorem dX8_init_25 : decode cX8_init 25 = .ok (.aload_n 0, 1) := by decide +kernel
theorem dX8_init_26 : decode cX8_init 26 = .ok (.iconst (-1), 1) := by decide +kernel
theorem dX8_init_27 : decode cX8_init 27 = .ok (.putfield 22, 3) := by decide +kernel
theorem dX8_init_30 : decode cX8_init 30 = .ok (.aload_n 0, 1) := by decide +kernel
theorem dX8_init_31 : decode cX8_init 31 = .ok (.bipush 60, 2) := by decide +kernel
theorem dX8_init_33 : decode cX8_init 33 = .ok (.putfield 25, 3) := by decide +kernel
theorem dX8_init_36 : decode cX8_init 36 = .ok (.aload_n 0, 1) := by decide +kernel
theorem dX8_init_37 : decode cX8_init 37 = .ok (.bipush 6, 2) := by decide +kernel
theorem dX8_init_39 : decode cX8_init 39 = .ok (.newarray .int, 2) := by decide +kernel
theorem dX8_init_41 : decode cX8_init 41 = .ok (.putfield 28, 3) := by decide +kernel
theorem dX8_init_44 : decode cX8_init 44 = .ok (.aload_n 0, 1) := by decide +kernel
theorem dX8_init_45 : decode cX8_init 45 = .ok (.bipush 6, 2) := by decide +kernel
theorem dX8_init_47 : decode cX8_init 47 = .ok (.newarray .int, 2) := by decide +kernel
theorem dX8_init_49 : decode cX8_init 49 = .ok (.putfield 32, 3) := by decide +kernel
theorem dX8_init_52 : decode cX8_init 52 = .ok (.aload_n 0, 1) := by decide +kernel
theorem dX8_init_53 : decode cX8_init 53 = .ok (.bipush 6, 2) := by decide +kernel
theorem dX8_init_55 : decode cX8_init 55 = .ok (.newarray .int, 2) := by decide +kernel
theorem dX8_init_57 : decode cX8_init 57 = .ok (.putfield 35, 3) := by decide +kernel
theorem dX8_init_60 : decode cX8_init 60 = .ok (.aload_n 0, 1) := by decide +kernel
theorem dX8_init_61 : decode cX8_init 61 = .ok (.bipush 6, 2) := by decide +kernel
theorem dX8_init_63 : decode cX8_init 63 = .ok (.newarray .int, 2) := by decide +kernel
theorem dX8_init_65 : decode cX8_init 65 = .ok (.putfield 38, 3) := by decide +kernel
theorem dX8_init_68 : decode cX8_init 68 = .ok (.aload_n 0, 1) := by decide +kernel
theorem dX8_init_69 : decode cX8_init 69 = .ok (.bipush 24, 2) := by decide +kernel
theorem dX8_init_71 : decode cX8_init 71 = .ok (.newarray .int, 2) := by decide +kernel
theorem dX8_init_73 : decode cX8_init 73 = .ok (.putfield 41, 3) := by decide +kernel
theorem dX8_init_76 : decode cX8_init 76 = .ok (.aload_n 0, 1) := by decide +kernel
theorem dX8_init_77 : decode cX8_init 77 = .ok (.iconst 0, 1) := by decide +kernel
theorem dX8_init_78 : decode cX8_init 78 = .ok (.putfield 44, 3) := by decide +kernel
theorem dX8_init_81 : decode cX8_init 81 = .ok (.aload_n 0, 1) := by decide +kernel
theorem dX8_init_82 : decode cX8_init 82 = .ok (.iconst (-1), 1) := by decide +kernel
theorem dX8_init_83 : decode cX8_init 83 = .ok (.putfield 47, 3) := by decide +kernel
theorem dX8_init_86 : decode cX8_init 86 = .ok (.aload_n 0, 1) := by decide +kernel
theorem dX8_init_87 : decode cX8_init 87 = .ok (.iconst 0, 1) := by decide +kernel
theorem dX8_init_88 : decode cX8_init 88 = .ok (.putfield 50, 3) := by decide +kernel
theorem dX8_init_91 : decode cX8_init 91 = .ok (.aload_n 0, 1) := by decide +kernel
theorem dX8_init_92 : decode cX8_init 92 = .ok (.iconst 0, 1) := by decide +kernel
theorem dX8_init_93 : decode cX8_init 93 = .ok (.putfield 53, 3) := by decide +kernel
theorem dX8_init_96 : decode cX8_init 96 = .ok (.aload_n 0, 1) := by decide +kernel
theorem dX8_init_97 : decode cX8_init 97 = .ok (.iconst 0, 1) := by decide +kernel
theorem dX8_init_98 : decode cX8_init 98 = .ok (.putfield 56, 3) := by decide +kernel
theorem dX8_init_101 : decode cX8_init 101 = .ok (.aload_n 0, 1) := by decide +kernel
theorem dX8_init_102 : decode cX8_init 102 = .ok (.bipush 100, 2) := by decide +kernel
theorem dX8_init_104 : decode cX8_init 104 = .ok (.newarray .int, 2) := by decide +kernel
theorem dX8_init_106 : decode cX8_init 106 = .ok (.putfield 59, 3) := by decide +kernel
theorem dX8_init_109 : decode cX8_init 109 = .ok (.aload_n 0, 1) := by decide +kernel
theorem dX8_init_110 : decode cX8_init 110 = .ok (.bipush 6, 2) := by decide +kernel
theorem dX8_init_112 : decode cX8_init 112 = .ok (.newarray .int, 2) := by decide +kernel
theorem dX8_init_114 : decode cX8_init 114 = .ok (.putfield 62, 3) := by decide +kernel
theorem dX8_init_117 : decode cX8_init 117 = .ok (.aload_n 0, 1) := by decide +kernel
theorem dX8_init_118 : decode cX8_init 118 = .ok (.bipush 60, 2) := by decide +kernel
theorem dX8_init_120 : decode cX8_init 120 = .ok (.newarray .int, 2) := by decide +kernel
theorem dX8_init_122 : decode cX8_init 122 = .ok (.putfield 65, 3) := by decide +kernel
theorem dX8_init_125 : decode cX8_init 125 = .ok (.aload_n 0, 1) := by decide +kernel
theorem dX8_init_126 : decode cX8_init 126 = .ok (.bipush 60, 2) := by decide +kernel
theorem dX8_init_128 : decode cX8_init 128 = .ok (.newarray .int, 2) := by decide +kernel
theorem dX8_init_130 : decode cX8_init 130 = .ok (.putfield 68, 3) := by decide +kernel
theorem dX8_init_133 : decode cX8_init 133 = .ok (.aload_n 0, 1) := by decide +kernel
theorem dX8_init_134 : decode cX8_init 134 = .ok (.bipush 60, 2) := by decide +kernel
theorem dX8_init_136 : decode cX8_init 136 = .ok (.newarray .int, 2) := by decide +kernel
theorem dX8_init_138 : decode cX8_init 138 = .ok (.putfield 71, 3) := by decide +kernel
theorem dX8_init_141 : decode cX8_init 141 = .ok (.aload_n 0, 1) := by decide +kernel
theorem dX8_init_142 : decode cX8_init 142 = .ok (.bipush 60, 2) := by decide +kernel
theorem dX8_init_144 : decode cX8_init 144 = .ok (.newarray .int, 2) := by decide +kernel
theorem dX8_init_146 : decode cX8_init 146 = .ok (.putfield 74, 3) := by decide +kernel
theorem dX8_init_149 : decode cX8_init 149 = .ok (.aload_n 0, 1) := by decide +kernel
theorem dX8_init_150 : decode cX8_init 150 = .ok (.sipush 600, 3) := by decide +kernel
theorem dX8_init_153 : decode cX8_init 153 = .ok (.newarray .int, 2) := by decide +kernel
theorem dX8_init_155 : decode cX8_init 155 = .ok (.putfield 77, 3) := by decide +kernel
theorem dX8_init_158 : decode cX8_init 158 = .ok (.aload_n 0, 1) := by decide +kernel
theorem dX8_init_159 : decode cX8_init 159 = .ok (.bipush 101, 2) := by decide +kernel
theorem dX8_init_161 : decode cX8_init 161 = .ok (.newarray .int, 2) := by decide +kernel
theorem dX8_init_163 : decode cX8_init 163 = .ok (.putfield 80, 3) := by decide +kernel
theorem dX8_init_166 : decode cX8_init 166 = .ok (.aload_n 0, 1) := by decide +kernel
theorem dX8_init_167 : decode cX8_init 167 = .ok (.iconst 0, 1) := by decide +kernel
theorem dX8_init_168 : decode cX8_init 168 = .ok (.putfield 83, 3) := by decide +kernel
theorem dX8_init_171 : decode cX8_init 171 = .ok (.aload_n 0, 1) := by decide +kernel
theorem dX8_init_172 : decode cX8_init 172 = .ok (.iconst 0, 1) := by decide +kernel
theorem dX8_init_173 : decode cX8_init 173 = .ok (.putfield 86, 3) := by decide +kernel
theorem dX8_init_176 : decode cX8_init 176 = .ok (.aload_n 0, 1) := by decide +kernel
theorem dX8_init_177 : decode cX8_init 177 = .ok (.iconst 0, 1) := by decide +kernel
theorem dX8_init_178 : decode cX8_init 178 = .ok (.putfield 89, 3) := by decide +kernel
theorem dX8_init_181 : decode cX8_init 181 = .ok (.aload_n 0, 1) := by decide +kernel
theorem dX8_init_182 : decode cX8_init 182 = .ok (.bipush 14, 2) := by decide +kernel
theorem dX8_init_184 : decode cX8_init 184 = .ok (.newarray .int, 2) := by decide +kernel
theorem dX8_init_186 : decode cX8_init 186 = .ok (.dup, 1) := by decide +kernel
theorem dX8_init_187 : decode cX8_init 187 = .ok (.iconst 0, 1) := by decide +kernel
theorem dX8_init_188 : decode cX8_init 188 = .ok (.bipush 117, 2) := by decide +kernel
theorem dX8_init_190 : decode cX8_init 190 = .ok (.iastore, 1) := by decide +kernel
theorem dX8_init_191 : decode cX8_init 191 = .ok (.dup, 1) := by decide +kernel
theorem dX8_init_192 : decode cX8_init 192 = .ok (.iconst 1, 1) := by decide +kernel
theorem dX8_init_193 : decode cX8_init 193 = .ok (.bipush 112, 2) := by decide +kernel
theorem dX8_init_195 : decode cX8_init 195 = .ok (.iastore, 1) := by decide +kernel
theorem dX8_init_196 : decode cX8_init 196 = .ok (.dup, 1) := by decide +kernel
theorem dX8_init_197 : decode cX8_init 197 = .ok (.iconst 2, 1) := by decide +kernel
theorem dX8_init_198 : decode cX8_init 198 = .ok (.bipush 100, 2) := by decide +kernel
theorem dX8_init_200 : decode cX8_init 200 = .ok (.iastore, 1) := by decide +kernel
theorem dX8_init_201 : decode cX8_init 201 = .ok (.dup, 1) := by decide +kernel
theorem dX8_init_202 : decode cX8_init 202 = .ok (.iconst 3, 1) := by decide +kernel
theorem dX8_init_203 : decode cX8_init 203 = .ok (.bipush 111, 2) := by decide +kernel
theorem dX8_init_205 : decode cX8_init 205 = .ok (.iastore, 1) := by decide +kernel
theorem dX8_init_206 : decode cX8_init 206 = .ok (.dup, 1) := by decide +kernel
theorem dX8_init_207 : decode cX8_init 207 = .ok (.iconst 4, 1) := by decide +kernel
theorem dX8_init_208 : decode cX8_init 208 = .ok (.bipush 119, 2) := by decide +kernel
theorem dX8_init_210 : decode cX8_init 210 = .ok (.iastore, 1) := by decide +kernel
theorem dX8_init_211 : decode cX8_init 211 = .ok (.dup, 1) := by decide +kernel
theorem dX8_init_212 : decode cX8_init 212 = .ok (.iconst 5, 1) := by decide +kernel
theorem dX8_init_213 : decode cX8_init 213 = .ok (.bipush 110, 2) := by decide +kernel
theorem dX8_init_215 : decode cX8_init 215 = .ok (.iastore, 1) := by decide +kernel
theorem dX8_init_216 : decode cX8_init 216 = .ok (.dup, 1) := by decide +kernel
theorem dX8_init_217 : decode cX8_init 217 = .ok (.bipush 6, 2) := by decide +kernel
theorem dX8_init_219 : decode cX8_init 219 = .ok (.bipush 98, 2) := by decide +kernel
theorem dX8_init_221 : decode cX8_init 221 = .ok (.iastore, 1) := by decide +kernel
theorem dX8_init_222 : decode cX8_init 222 = .ok (.dup, 1) := by decide +kernel
theorem dX8_init_223 : decode cX8_init 223 = .ok (.bipush 7, 2) := by decide +kernel
theorem dX8_init_225 : decode cX8_init 225 = .ok (.bipush 97, 2) := by decide +kernel
theorem dX8_init_227 : decode cX8_init 227 = .ok (.iastore, 1) := by decide +kernel
theorem dX8_init_228 : decode cX8_init 228 = .ok (.dup, 1) := by decide +kernel
theorem dX8_init_229 : decode cX8_init 229 = .ok (.bipush 8, 2) := by decide +kernel
theorem dX8_init_231 : decode cX8_init 231 = .ok (.bipush 115, 2) := by decide +kernel
theorem dX8_init_233 : decode cX8_init 233 = .ok (.iastore, 1) := by decide +kernel
theorem dX8_init_234 : decode cX8_init 234 = .ok (.dup, 1) := by decide +kernel
theorem dX8_init_235 : decode cX8_init 235 = .ok (.bipush 9, 2) := by decide +kernel
theorem dX8_init_237 : decode cX8_init 237 = .ok (.bipush 101, 2) := by decide +kernel
theorem dX8_init_239 : decode cX8_init 239 = .ok (.iastore, 1) := by decide +kernel
theorem dX8_init_240 : decode cX8_init 240 = .ok (.dup, 1) := by decide +kernel
theorem dX8_init_241 : decode cX8_init 241 = .ok (.bipush 10, 2) := by decide +kernel
theorem dX8_init_243 : decode cX8_init 243 = .ok (.bipush 115, 2) := by decide +kernel
theorem dX8_init_245 : decode cX8_init 245 = .ok (.iastore, 1) := by decide +kernel
theorem dX8_init_246 : decode cX8_init 246 = .ok (.dup, 1) := by decide +kernel
theorem dX8_init_247 : decode cX8_init 247 = .ok (.bipush 11, 2) := by decide +kernel
theorem dX8_init_249 : decode cX8_init 249 = .ok (.bipush 97, 2) := by decide +kernel
theorem dX8_init_251 : decode cX8_init 251 = .ok (.iastore, 1) := by decide +kernel
theorem dX8_init_252 : decode cX8_init 252 = .ok (.dup, 1) := by decide +kernel
theorem dX8_init_253 : decode cX8_init 253 = .ok (.bipush 12, 2) := by decide +kernel
theorem dX8_init_255 : decode cX8_init 255 = .ok (.bipush 102, 2) := by decide +kernel
theorem dX8_init_257 : decode cX8_init 257 = .ok (.iastore, 1) := by decide +kernel
theorem dX8_init_258 : decode cX8_init 258 = .ok (.dup, 1) := by decide +kernel
theorem dX8_init_259 : decode cX8_init 259 = .ok (.bipush 13, 2) := by decide +kernel
theorem dX8_init_261 : decode cX8_init 261 = .ok (.bipush 101, 2) := by decide +kernel
theorem dX8_init_263 : decode cX8_init 263 = .ok (.iastore, 1) := by decide +kernel
theorem dX8_init_264 : decode cX8_init 264 = .ok (.putfield 92, 3) := by decide +kernel
theorem dX8_init_267 : decode cX8_init 267 = .ok (.aload_n 0, 1) := by decide +kernel
theorem dX8_init_268 : decode cX8_init 268 = .ok (.bipush 100, 2) := by decide +kernel
theorem dX8_init_270 : decode cX8_init 270 = .ok (.newarray .boolean, 2) := by decide +kernel
theorem dX8_init_272 : decode cX8_init 272 = .ok (.putfield 95, 3) := by decide +kernel
theorem dX8_init_275 : decode cX8_init 275 = .ok (.aload_n 0, 1) := by decide +kernel
theorem dX8_init_276 : decode cX8_init 276 = .ok (.iconst 0, 1) := by decide +kernel
theorem dX8_init_277 : decode cX8_init 277 = .ok (.putfield 99, 3) := by decide +kernel
theorem dX8_init_280 : decode cX8_init 280 = .ok (.aload_n 0, 1) := by decide +kernel
theorem dX8_init_281 : decode cX8_init 281 = .ok (.iconst 0, 1) := by decide +kernel
theorem dX8_init_282 : decode cX8_init 282 = .ok (.putfield 102, 3) := by decide +kernel
theorem dX8_init_285 : decode cX8_init 285 = .ok (.aload_n 0, 1) := by decide +kernel
theorem dX8_init_286 : decode cX8_init 286 = .ok (.iconst 0, 1) := by decide +kernel
theorem dX8_init_287 : decode cX8_init 287 = .ok (.putfield 105, 3) := by decide +kernel
theorem dX8_init_290 : decode cX8_init 290 = .ok (.aload_n 0, 1) := by decide +kernel
theorem dX8_init_291 : decode cX8_init 291 = .ok (.iconst 0, 1) := by decide +kernel
theorem dX8_init_292 : decode cX8_init 292 = .ok (.putfield 108, 3) := by decide +kernel
theorem dX8_init_295 : decode cX8_init 295 = .ok (.aload_n 0, 1) := by decide +kernel
theorem dX8_init_296 : decode cX8_init 296 = .ok (.bipush (-5), 2) := by decide +kernel
theorem dX8_init_298 : decode cX8_init 298 = .ok (.putfield 111, 3) := by decide +kernel
theorem dX8_init_301 : decode cX8_init 301 = .ok (.aload_n 0, 1) := by decide +kernel
theorem dX8_init_302 : decode cX8_init 302 = .ok (.bipush (-5), 2) := by decide +kernel
theorem dX8_init_304 : decode cX8_init 304 = .ok (.putfield 114, 3) := by decide +kernel
theorem dX8_init_307 : decode cX8_init 307 = .ok (.aload_n 0, 1) := by decide +kernel
theorem dX8_init_308 : decode cX8_init 308 = .ok (.bipush (-5), 2) := by decide +kernel
theorem dX8_init_310 : decode cX8_init 310 = .ok (.putfield 117, 3) := by decide +kernel
theorem dX8_init_313 : decode cX8_init 313 = .ok (.aload_n 0, 1) := by decide +kernel
theorem dX8_init_314 : decode cX8_init 314 = .ok (.iconst 0, 1) := by decide +kernel
theorem dX8_init_315 : decode cX8_init 315 = .ok (.putfield 120, 3) := by decide +kernel
theorem dX8_init_318 : decode cX8_init 318 = .ok (.aload_n 0, 1) := by decide +kernel
theorem dX8_init_319 : decode cX8_init 319 = .ok (.iconst 4, 1) := by decide +kernel
theorem dX8_init_320 : decode cX8_init 320 = .ok (.newarray .int, 2) := by decide +kernel
theorem dX8_init_322 : decode cX8_init 322 = .ok (.putfield 123, 3) := by decide +kernel
theorem dX8_init_325 : decode cX8_init 325 = .ok (.aload_n 0, 1) := by decide +kernel
theorem dX8_init_326 : decode cX8_init 326 = .ok (.iconst 4, 1) := by decide +kernel
theorem dX8_init_327 : decode cX8_init 327 = .ok (.newarray .int, 2) := by decide +kernel
theorem dX8_init_329 : decode cX8_init 329 = .ok (.putfield 126, 3) := by decide +kernel
theorem dX8_init_332 : decode cX8_init 332 = .ok (.aload_n 0, 1) := by decide +kernel
theorem dX8_init_333 : decode cX8_init 333 = .ok (.iconst 0, 1) := by decide +kernel
theorem dX8_init_334 : decode cX8_init 334 = .ok (.putfield 129, 3) := by decide +kernel
theorem dX8_init_337 : decode cX8_init 337 = .ok (.aload_n 0, 1) := by decide +kernel
theorem dX8_init_338 : decode cX8_init 338 = .ok (.iconst 5, 1) := by decide +kernel
theorem dX8_init_339 : decode cX8_init 339 = .ok (.newarray .int, 2) := by decide +kernel
theorem dX8_init_341 : decode cX8_init 341 = .ok (.putfield 132, 3) := by decide +kernel
theorem dX8_init_344 : decode cX8_init 344 = .ok (.aload_n 0, 1) := by decide +kernel
theorem dX8_init_345 : decode cX8_init 345 = .ok (.iconst 0, 1) := by decide +kernel
theorem dX8_init_346 : decode cX8_init 346 = .ok (.putfield 135, 3) := by decide +kernel
theorem dX8_init_349 : decode cX8_init 349 = .ok (.aload_n 0, 1) := by decide +kernel
theorem dX8_init_350 : decode cX8_init 350 = .ok (.bipush 8, 2) := by decide +kernel
theorem dX8_init_352 : decode cX8_init 352 = .ok (.newarray .int, 2) := by decide +kernel
theorem dX8_init_354 : decode cX8_init 354 = .ok (.putfield 138, 3) := by decide +kernel
theorem dX8_init_357 : decode cX8_init 357 = .ok (.aload_n 0, 1) := by decide +kernel
theorem dX8_init_358 : decode cX8_init 358 = .ok (.bipush 8, 2) := by decide +kernel
theorem dX8_init_360 : decode cX8_init 360 = .ok (.newarray .int, 2) := by decide +kernel
theorem dX8_init_362 : decode cX8_init 362 = .ok (.putfield 141, 3) := by decide +kernel
theorem dX8_init_365 : decode cX8_init 365 = .ok (.aload_n 0, 1) := by decide +kernel
theorem dX8_init_366 : decode cX8_init 366 = .ok (.iconst 0, 1) := by decide +kernel
theorem dX8_init_367 : decode cX8_init 367 = .ok (.putfield 144, 3) := by decide +kernel
theorem dX8_init_370 : decode cX8_init 370 = .ok (.aload_n 0, 1) := by decide +kernel
theorem dX8_init_371 : decode cX8_init 371 = .ok (.iconst (-1), 1) := by decide +kernel
theorem dX8_init_372 : decode cX8_init 372 = .ok (.putfield 148, 3) := by decide +kernel
theorem dX8_init_375 : decode cX8_init 375 = .ok (.aload_n 0, 1) := by decide +kernel
theorem dX8_init_376 : decode cX8_init 376 = .ok (.iconst 0, 1) := by decide +kernel
theorem dX8_init_377 : decode cX8_init 377 = .ok (.putfield 151, 3) := by decide +kernel
theorem dX8_init_380 : decode cX8_init 380 = .ok (.aload_n 0, 1) := by decide +kernel
theorem dX8_init_381 : decode cX8_init 381 = .ok (.iconst 0, 1) := by decide +kernel
theorem dX8_init_382 : decode cX8_init 382 = .ok (.putfield 154, 3) := by decide +kernel
theorem dX8_init_385 : decode cX8_init 385 = .ok (.aload_n 0, 1) := by decide +kernel
theorem dX8_init_386 : decode cX8_init 386 = .ok (.iconst 0, 1) := by decide +kernel
theorem dX8_init_387 : decode cX8_init 387 = .ok (.putfield 157, 3) := by decide +kernel
theorem dX8_init_390 : decode cX8_init 390 = .ok (.aload_n 0, 1) := by decide +kernel
theorem dX8_init_391 : decode cX8_init 391 = .ok (.bipush 100, 2) := by decide +kernel
theorem dX8_init_393 : decode cX8_init 393 = .ok (.putfield 160, 3) := by decide +kernel
theorem dX8_init_396 : decode cX8_init 396 = .ok (.aload_n 0, 1) := by decide +kernel
theorem dX8_init_397 : decode cX8_init 397 = .ok (.iconst (-1), 1) := by decide +kernel
theorem dX8_init_398 : decode cX8_init 398 = .ok (.putfield 163, 3) := by decide +kernel
theorem dX8_init_401 : decode cX8_init 401 = .ok (.aload_n 0, 1) := by decide +kernel
theorem dX8_init_402 : decode cX8_init 402 = .ok (.bipush 60, 2) := by decide +kernel
theorem dX8_init_404 : decode cX8_init 404 = .ok (.putfield 166, 3) := by decide +kernel
theorem dX8_init_407 : decode cX8_init 407 = .ok (.aload_n 0, 1) := by decide +kernel
theorem dX8_init_408 : decode cX8_init 408 = .ok (.iconst 0, 1) := by decide +kernel
theorem dX8_init_409 : decode cX8_init 409 = .ok (.putfield 169, 3) := by decide +kernel
theorem dX8_init_412 : decode cX8_init 412 = .ok (.aload_n 0, 1) := by decide +kernel
theorem dX8_init_413 : decode cX8_init 413 = .ok (.iconst 0, 1) := by decide +kernel
theorem dX8_init_414 : decode cX8_init 414 = .ok (.putfield 172, 3) := by decide +kernel
theorem dX8_init_417 : decode cX8_init 417 = .ok (.aload_n 0, 1) := by decide +kernel
theorem dX8_init_418 : decode cX8_init 418 = .ok (.iconst 0, 1) := by decide +kernel
theorem dX8_init_419 : decode cX8_init 419 = .ok (.putfield 175, 3) := by decide +kernel
theorem dX8_init_422 : decode cX8_init 422 = .ok (.aload_n 0, 1) := by decide +kernel
theorem dX8_init_423 : decode cX8_init 423 = .ok (.bipush 6, 2) := by decide +kernel
theorem dX8_init_425 : decode cX8_init 425 = .ok (.newarray .int, 2) := by decide +kernel
theorem dX8_init_427 : decode cX8_init 427 = .ok (.putfield 178, 3) := by decide +kernel
theorem dX8_init_430 : decode cX8_init 430 = .ok (.aload_n 0, 1) := by decide +kernel
theorem dX8_init_431 : decode cX8_init 431 = .ok (.bipush 6, 2) := by decide +kernel
theorem dX8_init_433 : decode cX8_init 433 = .ok (.newarray .int, 2) := by decide +kernel
theorem dX8_init_435 : decode cX8_init 435 = .ok (.putfield 181, 3) := by decide +kernel
theorem dX8_init_438 : decode cX8_init 438 = .ok (.aload_n 0, 1) := by decide +kernel
theorem dX8_init_439 : decode cX8_init 439 = .ok (.bipush 6, 2) := by decide +kernel
theorem dX8_init_441 : decode cX8_init 441 = .ok (.newarray .int, 2) := by decide +kernel
theorem dX8_init_443 : decode cX8_init 443 = .ok (.putfield 184, 3) := by decide +kernel
theorem dX8_init_446 : decode cX8_init 446 = .ok (.aload_n 0, 1) := by decide +kernel
theorem dX8_init_447 : decode cX8_init 447 = .ok (.bipush 6, 2) := by decide +kernel
theorem dX8_init_449 : decode cX8_init 449 = .ok (.newarray .int, 2) := by decide +kernel
theorem dX8_init_451 : decode cX8_init 451 = .ok (.putfield 187, 3) := by decide +kernel
theorem dX8_init_454 : decode cX8_init 454 = .ok (.aload_n 0, 1) := by decide +kernel
theorem dX8_init_455 : decode cX8_init 455 = .ok (.bipush 24, 2) := by decide +kernel
theorem dX8_init_457 : decode cX8_init 457 = .ok (.newarray .int, 2) := by decide +kernel
theorem dX8_init_459 : decode cX8_init 459 = .ok (.putfield 190, 3) := by decide +kernel
theorem dX8_init_462 : decode cX8_init 462 = .ok (.aload_n 0, 1) := by decide +kernel
theorem dX8_init_463 : decode cX8_init 463 = .ok (.iconst 4, 1) := by decide +kernel
theorem dX8_init_464 : decode cX8_init 464 = .ok (.newarray .int, 2) := by decide +kernel
theorem dX8_init_466 : decode cX8_init 466 = .ok (.putfield 193, 3) := by decide +kernel
theorem dX8_init_469 : decode cX8_init 469 = .ok (.aload_n 0, 1) := by decide +kernel
theorem dX8_init_470 : decode cX8_init 470 = .ok (.iconst 4, 1) := by decide +kernel
theorem dX8_init_471 : decode cX8_init 471 = .ok (.newarray .int, 2) := by decide +kernel
theorem dX8_init_473 : decode cX8_init 473 = .ok (.putfield 196, 3) := by decide +kernel
theorem dX8_init_476 : decode cX8_init 476 = .ok (.aload_n 0, 1) := by decide +kernel
theorem dX8_init_477 : decode cX8_init 477 = .ok (.iconst 5, 1) := by decide +kernel
theorem dX8_init_478 : decode cX8_init 478 = .ok (.newarray .int, 2) := by decide +kernel
theorem dX8_init_480 : decode cX8_init 480 = .ok (.putfield 199, 3) := by decide +kernel
theorem dX8_init_483 : decode cX8_init 483 = .ok (.aload_n 0, 1) := by decide +kernel
theorem dX8_init_484 : decode cX8_init 484 = .ok (.bipush 8, 2) := by decide +kernel
theorem dX8_init_486 : decode cX8_init 486 = .ok (.newarray .int, 2) := by decide +kernel
theorem dX8_init_488 : decode cX8_init 488 = .ok (.putfield 202, 3) := by decide +kernel
theorem dX8_init_491 : decode cX8_init 491 = .ok (.aload_n 0, 1) := by decide +kernel
theorem dX8_init_492 : decode cX8_init 492 = .ok (.bipush 8, 2) := by decide +kernel
theorem dX8_init_494 : decode cX8_init 494 = .ok (.newarray .int, 2) := by decide +kernel
theorem dX8_init_496 : decode cX8_init 496 = .ok (.putfield 205, 3) := by decide +kernel
theorem dX8_init_499 : decode cX8_init 499 = .ok (.aload_n 0, 1) := by decide +kernel
theorem dX8_init_500 : decode cX8_init 500 = .ok (.iconst 0, 1) := by decide +kernel
theorem dX8_init_501 : decode cX8_init 501 = .ok (.putfield 208, 3) := by decide +kernel
theorem dX8_init_504 : decode cX8_init 504 = .ok (.aload_n 0, 1) := by decide +kernel
theorem dX8_init_505 : decode cX8_init 505 = .ok (.bipush 20, 2) := by decide +kernel
theorem dX8_init_507 : decode cX8_init 507 = .ok (.newarray .int, 2) := by decide +kernel
theorem dX8_init_509 : decode cX8_init 509 = .ok (.putfield 211, 3) := by decide +kernel
theorem dX8_init_512 : decode cX8_init 512 = .ok (.aload_n 0, 1) := by decide +kernel
theorem dX8_init_513 : decode cX8_init 513 = .ok (.bipush 6, 2) := by decide +kernel
theorem dX8_init_515 : decode cX8_init 515 = .ok (.newarray .int, 2) := by decide +kernel
theorem dX8_init_517 : decode cX8_init 517 = .ok (.dup, 1) := by decide +kernel
theorem dX8_init_518 : decode cX8_init 518 = .ok (.iconst 0, 1) := by decide +kernel
theorem dX8_init_519 : decode cX8_init 519 = .ok (.iconst (-1), 1) := by decide +kernel
theorem dX8_init_520 : decode cX8_init 520 = .ok (.iastore, 1) := by decide +kernel
theorem dX8_init_521 : decode cX8_init 521 = .ok (.dup, 1) := by decide +kernel
theorem dX8_init_522 : decode cX8_init 522 = .ok (.iconst 1, 1) := by decide +kernel
theorem dX8_init_523 : decode cX8_init 523 = .ok (.iconst (-1), 1) := by decide +kernel
theorem dX8_init_524 : decode cX8_init 524 = .ok (.iastore, 1) := by decide +kernel
theorem dX8_init_525 : decode cX8_init 525 = .ok (.dup, 1) := by decide +kernel
theorem dX8_init_526 : decode cX8_init 526 = .ok (.iconst 2, 1) := by decide +kernel
theorem dX8_init_527 : decode cX8_init 527 = .ok (.iconst (-1), 1) := by decide +kernel
theorem dX8_init_528 : decode cX8_init 528 = .ok (.iastore, 1) := by decide +kernel
theorem dX8_init_529 : decode cX8_init 529 = .ok (.dup, 1) := by decide +kernel
theorem dX8_init_530 : decode cX8_init 530 = .ok (.iconst 3, 1) := by decide +kernel
theorem dX8_init_531 : decode cX8_init 531 = .ok (.iconst (-1), 1) := by decide +kernel
theorem dX8_init_532 : decode cX8_init 532 = .ok (.iastore, 1) := by decide +kernel
theorem dX8_init_533 : decode cX8_init 533 = .ok (.dup, 1) := by decide +kernel
theorem dX8_init_534 : decode cX8_init 534 = .ok (.iconst 4, 1) := by decide +kernel
theorem dX8_init_535 : decode cX8_init 535 = .ok (.iconst (-1), 1) := by decide +kernel
theorem dX8_init_536 : decode cX8_init 536 = .ok (.iastore, 1) := by decide +kernel
theorem dX8_init_537 : decode cX8_init 537 = .ok (.dup, 1) := by decide +kernel
theorem dX8_init_538 : decode cX8_init 538 = .ok (.iconst 5, 1) := by decide +kernel
theorem dX8_init_539 : decode cX8_init 539 = .ok (.iconst (-1), 1) := by decide +kernel
theorem dX8_init_540 : decode cX8_init 540 = .ok (.iastore, 1) := by decide +kernel
theorem dX8_init_541 : decode cX8_init 541 = .ok (.putfield 214, 3) := by decide +kernel
theorem dX8_init_544 : decode cX8_init 544 = .ok (.aload_n 0, 1) := by decide +kernel
theorem dX8_init_545 : decode cX8_init 545 = .ok (.bipush 6, 2) := by decide +kernel
theorem dX8_init_547 : decode cX8_init 547 = .ok (.newarray .int, 2) := by decide +kernel
theorem dX8_init_549 : decode cX8_init 549 = .ok (.putfield 217, 3) := by decide +kernel
theorem dX8_init_552 : decode cX8_init 552 = .ok (.aload_n 0, 1) := by decide +kernel
theorem dX8_init_553 : decode cX8_init 553 = .ok (.sipush 360, 3) := by decide +kernel
theorem dX8_init_556 : decode cX8_init 556 = .ok (.newarray .long, 2) := by decide +kernel
theorem dX8_init_558 : decode cX8_init 558 = .ok (.putfield 220, 3) := by decide +kernel
theorem dX8_init_561 : decode cX8_init 561 = .ok (.aload_n 0, 1) := by decide +kernel
theorem dX8_init_562 : decode cX8_init 562 = .ok (.bipush 60, 2) := by decide +kernel
theorem dX8_init_564 : decode cX8_init 564 = .ok (.newarray .long, 2) := by decide +kernel
theorem dX8_init_566 : decode cX8_init 566 = .ok (.putfield 224, 3) := by decide +kernel
theorem dX8_init_569 : decode cX8_init 569 = .ok (.return_, 1) := by decide +kernel
theorem dX8_in_0 : decode cX8_in 0 = .ok (.iload_n 1, 1) := by decide +kernel
theorem dX8_in_1 : decode cX8_in 1 = .ok (.iload_n 2, 1) := by decide +kernel
theorem dX8_in_2 : decode cX8_in 2 = .ok (.if_icmp .lt 12, 3) := by decide +kernel
theorem dX8_in_5 : decode cX8_in 5 = .ok (.iload_n 1, 1) := by decide +kernel
theorem dX8_in_6 : decode cX8_in 6 = .ok (.iload_n 3, 1) := by decide +kernel
theorem dX8_in_7 : decode cX8_in 7 = .ok (.if_icmp .gt 7, 3) := by decide +kernel
theorem dX8_in_10 : decode cX8_in 10 = .ok (.iconst 1, 1) := by decide +kernel
theorem dX8_in_11 : decode cX8_in 11 = .ok (.goto 4, 3) := by decide +kernel
theorem dX8_in_14 : decode cX8_in 14 = .ok (.iconst 0, 1) := by decide +kernel
theorem dX8_in_15 : decode cX8_in 15 = .ok (.ireturn, 1) := by decide +kernel
theorem dX8_apart_0 : decode cX8_apart 0 = .ok (.iload_n 1, 1) := by decide +kernel
theorem dX8_apart_1 : decode cX8_apart 1 = .ok (.iload_n 2, 1) := by decide +kernel
theorem dX8_apart_2 : decode cX8_apart 2 = .ok (.if_icmp .ge 9, 3) := by decide +kernel
theorem dX8_apart_5 : decode cX8_apart 5 = .ok (.iload_n 2, 1) := by decide +kernel
theorem dX8_apart_6 : decode cX8_apart 6 = .ok (.iload_n 1, 1) := by decide +kernel
theorem dX8_apart_7 : decode cX8_apart 7 = .ok (.isub, 1) := by decide +kernel
theorem dX8_apart_8 : decode cX8_apart 8 = .ok (.goto 6, 3) := by decide +kernel
theorem dX8_apart_11 : decode cX8_apart 11 = .ok (.iload_n 1, 1) := by decide +kernel
theorem dX8_apart_12 : decode cX8_apart 12 = .ok (.iload_n 2, 1) := by decide +kernel
theorem dX8_apart_13 : decode cX8_apart 13 = .ok (.isub, 1) := by decide +kernel
theorem dX8_apart_14 : decode cX8_apart 14 = .ok (.ireturn, 1) := by decide +kernel
theorem dX8_isLift_0 : decode cX8_isLift 0 = .ok (.aload_n 0, 1) := by decide +kernel
theorem dX8_isLift_1 : decode cX8_isLift 1 = .ok (.iload_n 1, 1) := by decide +kernel
theorem dX8_isLift_2 : decode cX8_isLift 2 = .ok (.iconst 0, 1) := by decide +kernel
theorem dX8_isLift_3 : decode cX8_isLift 3 = .ok (.aload_n 0, 1) := by decide +kernel
theorem dX8_isLift_4 : decode cX8_isLift 4 = .ok (.getfield 7, 3) := by decide +kernel
theorem dX8_isLift_7 : decode cX8_isLift 7 = .ok (.iconst 1, 1) := by decide +kernel
theorem dX8_isLift_8 : decode cX8_isLift 8 = .ok (.isub, 1) := by decide +kernel
theorem dX8_isLift_9 : decode cX8_isLift 9 = .ok (.invokevirtual 227, 3) := by decide +kernel
theorem dX8_isLift_12 : decode cX8_isLift 12 = .ok (.ireturn, 1) := by decide +kernel
theorem dX8_isMile_0 : decode cX8_isMile 0 = .ok (.aload_n 0, 1) := by decide +kernel
theorem dX8_isMile_1 : decode cX8_isMile 1 = .ok (.iload_n 1, 1) := by decide +kernel
theorem dX8_isMile_2 : decode cX8_isMile 2 = .ok (.iconst 0, 1) := by decide +kernel
theorem dX8_isMile_3 : decode cX8_isMile 3 = .ok (.bipush 99, 2) := by decide +kernel
theorem dX8_isMile_5 : decode cX8_isMile 5 = .ok (.invokevirtual 227, 3) := by decide +kernel
theorem dX8_isMile_8 : decode cX8_isMile 8 = .ok (.ireturn, 1) := by decide +kernel
theorem dX8_isPace_0 : decode cX8_isPace 0 = .ok (.aload_n 0, 1) := by decide +kernel
theorem dX8_isPace_1 : decode cX8_isPace 1 = .ok (.iload_n 1, 1) := by decide +kernel
theorem dX8_isPace_2 : decode cX8_isPace 2 = .ok (.iconst 1, 1) := by decide +kernel
theorem dX8_isPace_3 : decode cX8_isPace 3 = .ok (.bipush 9, 2) := by decide +kernel
theorem dX8_isPace_5 : decode cX8_isPace 5 = .ok (.invokevirtual 227, 3) := by decide +kernel
theorem dX8_isPace_8 : decode cX8_isPace 8 = .ok (.ireturn, 1) := by decide +kernel
theorem dX8_isTime_0 : decode cX8_isTime 0 = .ok (.aload_n 0, 1) := by decide +kernel
theorem dX8_isTime_1 : decode cX8_isTime 1 = .ok (.iload_n 1, 1) := by decide +kernel
theorem dX8_isTime_2 : decode cX8_isTime 2 = .ok (.iconst 0, 1) := by decide +kernel
theorem dX8_isTime_3 : decode cX8_isTime 3 = .ok (.bipush 60, 2) := by decide +kernel
theorem dX8_isTime_5 : decode cX8_isTime 5 = .ok (.invokevirtual 227, 3) := by decide +kernel
theorem dX8_isTime_8 : decode cX8_isTime 8 = .ok (.ireturn, 1) := by decide +kernel
theorem dX8_lift_0 : decode cX8_lift 0 = .ok (.aload_n 0, 1) := by decide +kernel
theorem dX8_lift_1 : decode cX8_lift 1 = .ok (.iload_n 1, 1) := by decide +kernel
theorem dX8_lift_2 : decode cX8_lift 2 = .ok (.iconst 0, 1) := by decide +kernel
theorem dX8_lift_3 : decode cX8_lift 3 = .ok (.bipush 6, 2) := by decide +kernel
theorem dX8_lift_5 : decode cX8_lift 5 = .ok (.invokevirtual 227, 3) := by decide +kernel
theorem dX8_lift_8 : decode cX8_lift 8 = .ok (.ifCond .ne 5, 3) := by decide +kernel
theorem dX8_lift_11 : decode cX8_lift 11 = .ok (.iconst (-1), 1) := by decide +kernel
theorem dX8_lift_12 : decode cX8_lift 12 = .ok (.ireturn, 1) := by decide +kernel
theorem dX8_lift_13 : decode cX8_lift 13 = .ok (.aload_n 0, 1) := by decide +kernel
theorem dX8_lift_14 : decode cX8_lift 14 = .ok (.iload_n 2, 1) := by decide +kernel
theorem dX8_lift_15 : decode cX8_lift 15 = .ok (.iconst 0, 1) := by decide +kernel
theorem dX8_lift_16 : decode cX8_lift 16 = .ok (.bipush 9, 2) := by decide +kernel
theorem dX8_lift_18 : decode cX8_lift 18 = .ok (.invokevirtual 227, 3) := by decide +kernel
theorem dX8_lift_21 : decode cX8_lift 21 = .ok (.ifCond .eq 23, 3) := by decide +kernel
theorem dX8_lift_24 : decode cX8_lift 24 = .ok (.aload_n 0, 1) := by decide +kernel
theorem dX8_lift_25 : decode cX8_lift 25 = .ok (.iload_n 3, 1) := by decide +kernel
theorem dX8_lift_26 : decode cX8_lift 26 = .ok (.invokevirtual 231, 3) := by decide +kernel
theorem dX8_lift_29 : decode cX8_lift 29 = .ok (.ifCond .eq 15, 3) := by decide +kernel
theorem dX8_lift_32 : decode cX8_lift 32 = .ok (.aload_n 0, 1) := by decide +kernel
theorem dX8_lift_33 : decode cX8_lift 33 = .ok (.iload 4, 2) := by decide +kernel
theorem dX8_lift_35 : decode cX8_lift 35 = .ok (.iconst 0, 1) := by decide +kernel
theorem dX8_lift_36 : decode cX8_lift 36 = .ok (.bipush 20, 2) := by decide +kernel
theorem dX8_lift_38 : decode cX8_lift 38 = .ok (.invokevirtual 227, 3) := by decide +kernel
theorem dX8_lift_41 : decode cX8_lift 41 = .ok (.ifCond .ne 6, 3) := by decide +kernel
theorem dX8_lift_44 : decode cX8_lift 44 = .ok (.bipush (-2), 2) := by decide +kernel
theorem dX8_lift_46 : decode cX8_lift 46 = .ok (.ireturn, 1) := by decide +kernel
theorem dX8_lift_47 : decode cX8_lift 47 = .ok (.aload_n 0, 1) := by decide +kernel
theorem dX8_lift_48 : decode cX8_lift 48 = .ok (.getfield 7, 3) := by decide +kernel
theorem dX8_lift_51 : decode cX8_lift 51 = .ok (.bipush 6, 2) := by decide +kernel
theorem dX8_lift_53 : decode cX8_lift 53 = .ok (.if_icmp .ne 6, 3) := by decide +kernel
theorem dX8_lift_56 : decode cX8_lift 56 = .ok (.bipush (-4), 2) := by decide +kernel
theorem dX8_lift_58 : decode cX8_lift 58 = .ok (.ireturn, 1) := by decide +kernel
theorem dX8_lift_59 : decode cX8_lift 59 = .ok (.aload_n 0, 1) := by decide +kernel
theorem dX8_lift_60 : decode cX8_lift 60 = .ok (.getfield 28, 3) := by decide +kernel
theorem dX8_lift_63 : decode cX8_lift 63 = .ok (.aload_n 0, 1) := by decide +kernel
theorem dX8_lift_64 : decode cX8_lift 64 = .ok (.getfield 7, 3) := by decide +kernel
theorem dX8_lift_67 : decode cX8_lift 67 = .ok (.iload_n 1, 1) := by decide +kernel
theorem dX8_lift_68 : decode cX8_lift 68 = .ok (.iastore, 1) := by decide +kernel
theorem dX8_lift_69 : decode cX8_lift 69 = .ok (.aload_n 0, 1) := by decide +kernel
theorem dX8_lift_70 : decode cX8_lift 70 = .ok (.getfield 32, 3) := by decide +kernel
theorem dX8_lift_73 : decode cX8_lift 73 = .ok (.aload_n 0, 1) := by decide +kernel
theorem dX8_lift_74 : decode cX8_lift 74 = .ok (.getfield 7, 3) := by decide +kernel
theorem dX8_lift_77 : decode cX8_lift 77 = .ok (.iload_n 2, 1) := by decide +kernel
theorem dX8_lift_78 : decode cX8_lift 78 = .ok (.iastore, 1) := by decide +kernel
theorem dX8_lift_79 : decode cX8_lift 79 = .ok (.aload_n 0, 1) := by decide +kernel
theorem dX8_lift_80 : decode cX8_lift 80 = .ok (.getfield 35, 3) := by decide +kernel
theorem dX8_lift_83 : decode cX8_lift 83 = .ok (.aload_n 0, 1) := by decide +kernel
theorem dX8_lift_84 : decode cX8_lift 84 = .ok (.getfield 7, 3) := by decide +kernel
theorem dX8_lift_87 : decode cX8_lift 87 = .ok (.iload_n 3, 1) := by decide +kernel
theorem dX8_lift_88 : decode cX8_lift 88 = .ok (.iastore, 1) := by decide +kernel
theorem dX8_lift_89 : decode cX8_lift 89 = .ok (.aload_n 0, 1) := by decide +kernel
theorem dX8_lift_90 : decode cX8_lift 90 = .ok (.getfield 38, 3) := by decide +kernel
theorem dX8_lift_93 : decode cX8_lift 93 = .ok (.aload_n 0, 1) := by decide +kernel
theorem dX8_lift_94 : decode cX8_lift 94 = .ok (.getfield 7, 3) := by decide +kernel
theorem dX8_lift_97 : decode cX8_lift 97 = .ok (.iload 4, 2) := by decide +kernel
theorem dX8_lift_99 : decode cX8_lift 99 = .ok (.iastore, 1) := by decide +kernel
theorem dX8_lift_100 : decode cX8_lift 100 = .ok (.iconst 0, 1) := by decide +kernel
theorem dX8_lift_101 : decode cX8_lift 101 = .ok (.istore 5, 2) := by decide +kernel
theorem dX8_lift_103 : decode cX8_lift 103 = .ok (.iload 5, 2) := by decide +kernel
theorem dX8_lift_105 : decode cX8_lift 105 = .ok (.iconst 4, 1) := by decide +kernel
theorem dX8_lift_106 : decode cX8_lift 106 = .ok (.if_icmp .ge 24, 3) := by decide +kernel
theorem dX8_lift_109 : decode cX8_lift 109 = .ok (.aload_n 0, 1) := by decide +kernel
theorem dX8_lift_110 : decode cX8_lift 110 = .ok (.getfield 41, 3) := by decide +kernel
theorem dX8_lift_113 : decode cX8_lift 113 = .ok (.iconst 4, 1) := by decide +kernel
theorem dX8_lift_114 : decode cX8_lift 114 = .ok (.aload_n 0, 1) := by decide +kernel
theorem dX8_lift_115 : decode cX8_lift 115 = .ok (.getfield 7, 3) := by decide +kernel
theorem dX8_lift_118 : decode cX8_lift 118 = .ok (.imul, 1) := by decide +kernel
theorem dX8_lift_119 : decode cX8_lift 119 = .ok (.iload 5, 2) := by decide +kernel
theorem dX8_lift_121 : decode cX8_lift 121 = .ok (.iadd, 1) := by decide +kernel
theorem dX8_lift_122 : decode cX8_lift 122 = .ok (.iconst 0, 1) := by decide +kernel
theorem dX8_lift_123 : decode cX8_lift 123 = .ok (.iastore, 1) := by decide +kernel
theorem dX8_lift_124 : decode cX8_lift 124 = .ok (.iinc 5 1, 3) := by decide +kernel
theorem dX8_lift_127 : decode cX8_lift 127 = .ok (.goto (-24), 3) := by decide +kernel
theorem dX8_lift_130 : decode cX8_lift 130 = .ok (.aload_n 0, 1) := by decide +kernel
theorem dX8_lift_131 : decode cX8_lift 131 = .ok (.dup, 1) := by decide +kernel
theorem dX8_lift_132 : decode cX8_lift 132 = .ok (.getfield 7, 3) := by decide +kernel
theorem dX8_lift_135 : decode cX8_lift 135 = .ok (.iconst 1, 1) := by decide +kernel
theorem dX8_lift_136 : decode cX8_lift 136 = .ok (.iadd, 1) := by decide +kernel
theorem dX8_lift_137 : decode cX8_lift 137 = .ok (.putfield 7, 3) := by decide +kernel
theorem dX8_lift_140 : decode cX8_lift 140 = .ok (.aload_n 0, 1) := by decide +kernel
theorem dX8_lift_141 : decode cX8_lift 141 = .ok (.getfield 7, 3) := by decide +kernel
theorem dX8_lift_144 : decode cX8_lift 144 = .ok (.iconst 1, 1) := by decide +kernel
theorem dX8_lift_145 : decode cX8_lift 145 = .ok (.isub, 1) := by decide +kernel
theorem dX8_lift_146 : decode cX8_lift 146 = .ok (.ireturn, 1) := by decide +kernel
theorem dX8_pull_0 : decode cX8_pull 0 = .ok (.aload_n 0, 1) := by decide +kernel
theorem dX8_pull_1 : decode cX8_pull 1 = .ok (.iload_n 1, 1) := by decide +kernel
theorem dX8_pull_2 : decode cX8_pull 2 = .ok (.invokevirtual 235, 3) := by decide +kernel
theorem dX8_pull_5 : decode cX8_pull 5 = .ok (.ifCond .ne 5, 3) := by decide +kernel
theorem dX8_pull_8 : decode cX8_pull 8 = .ok (.iconst (-1), 1) := by decide +kernel
theorem dX8_pull_9 : decode cX8_pull 9 = .ok (.ireturn, 1) := by decide +kernel
theorem dX8_pull_10 : decode cX8_pull 10 = .ok (.aload_n 0, 1) := by decide +kernel
theorem dX8_pull_11 : decode cX8_pull 11 = .ok (.iload_n 2, 1) := by decide +kernel
theorem dX8_pull_12 : decode cX8_pull 12 = .ok (.iconst 0, 1) := by decide +kernel
theorem dX8_pull_13 : decode cX8_pull 13 = .ok (.bipush 20, 2) := by decide +kernel
theorem dX8_pull_15 : decode cX8_pull 15 = .ok (.invokevirtual 227, 3) := by decide +kernel
theorem dX8_pull_18 : decode cX8_pull 18 = .ok (.ifCond .ne 6, 3) := by decide +kernel
theorem dX8_pull_21 : decode cX8_pull 21 = .ok (.bipush (-2), 2) := by decide +kernel
theorem dX8_pull_23 : decode cX8_pull 23 = .ok (.ireturn, 1) := by decide +kernel
theorem dX8_pull_24 : decode cX8_pull 24 = .ok (.aload_n 0, 1) := by decide +kernel
theorem dX8_pull_25 : decode cX8_pull 25 = .ok (.getfield 38, 3) := by decide +kernel
theorem dX8_pull_28 : decode cX8_pull 28 = .ok (.iload_n 1, 1) := by decide +kernel
theorem dX8_pull_29 : decode cX8_pull 29 = .ok (.iaload, 1) := by decide +kernel
theorem dX8_pull_30 : decode cX8_pull 30 = .ok (.istore_n 3, 1) := by decide +kernel
theorem dX8_pull_31 : decode cX8_pull 31 = .ok (.aload_n 0, 1) := by decide +kernel
theorem dX8_pull_32 : decode cX8_pull 32 = .ok (.getfield 38, 3) := by decide +kernel
theorem dX8_pull_35 : decode cX8_pull 35 = .ok (.iload_n 1, 1) := by decide +kernel
theorem dX8_pull_36 : decode cX8_pull 36 = .ok (.iload_n 2, 1) := by decide +kernel
theorem dX8_pull_37 : decode cX8_pull 37 = .ok (.iastore, 1) := by decide +kernel
theorem dX8_pull_38 : decode cX8_pull 38 = .ok (.iload_n 3, 1) := by decide +kernel
theorem dX8_pull_39 : decode cX8_pull 39 = .ok (.ireturn, 1) := by decide +kernel
theorem dX8_row_0 : decode cX8_row 0 = .ok (.aload_n 0, 1) := by decide +kernel
theorem dX8_row_1 : decode cX8_row 1 = .ok (.iload_n 1, 1) := by decide +kernel
theorem dX8_row_2 : decode cX8_row 2 = .ok (.invokevirtual 235, 3) := by decide +kernel
theorem dX8_row_5 : decode cX8_row 5 = .ok (.ifCond .eq 13, 3) := by decide +kernel
theorem dX8_row_8 : decode cX8_row 8 = .ok (.aload_n 0, 1) := by decide +kernel
theorem dX8_row_9 : decode cX8_row 9 = .ok (.iload_n 2, 1) := by decide +kernel
theorem dX8_row_10 : decode cX8_row 10 = .ok (.iconst 0, 1) := by decide +kernel
theorem dX8_row_11 : decode cX8_row 11 = .ok (.iconst 3, 1) := by decide +kernel
theorem dX8_row_12 : decode cX8_row 12 = .ok (.invokevirtual 227, 3) := by decide +kernel
theorem dX8_row_15 : decode cX8_row 15 = .ok (.ifCond .ne 5, 3) := by decide +kernel
theorem dX8_row_18 : decode cX8_row 18 = .ok (.iconst (-1), 1) := by decide +kernel
theorem dX8_row_19 : decode cX8_row 19 = .ok (.ireturn, 1) := by decide +kernel
theorem dX8_row_20 : decode cX8_row 20 = .ok (.aload_n 0, 1) := by decide +kernel
theorem dX8_row_21 : decode cX8_row 21 = .ok (.iload_n 3, 1) := by decide +kernel
theorem dX8_row_22 : decode cX8_row 22 = .ok (.iconst 0, 1) := by decide +kernel
theorem dX8_row_23 : decode cX8_row 23 = .ok (.bipush 9, 2) := by decide +kernel
theorem dX8_row_25 : decode cX8_row 25 = .ok (.invokevirtual 227, 3) := by decide +kernel
theorem dX8_row_28 : decode cX8_row 28 = .ok (.ifCond .ne 6, 3) := by decide +kernel
theorem dX8_row_31 : decode cX8_row 31 = .ok (.bipush (-2), 2) := by decide +kernel
theorem dX8_row_33 : decode cX8_row 33 = .ok (.ireturn, 1) := by decide +kernel
theorem dX8_row_34 : decode cX8_row 34 = .ok (.aload_n 0, 1) := by decide +kernel
theorem dX8_row_35 : decode cX8_row 35 = .ok (.getfield 28, 3) := by decide +kernel
theorem dX8_row_38 : decode cX8_row 38 = .ok (.iload_n 1, 1) := by decide +kernel
theorem dX8_row_39 : decode cX8_row 39 = .ok (.iaload, 1) := by decide +kernel
theorem dX8_row_40 : decode cX8_row 40 = .ok (.bipush 6, 2) := by decide +kernel
theorem dX8_row_42 : decode cX8_row 42 = .ok (.if_icmp .eq 6, 3) := by decide +kernel
theorem dX8_row_45 : decode cX8_row 45 = .ok (.bipush (-3), 2) := by decide +kernel
theorem dX8_row_47 : decode cX8_row 47 = .ok (.ireturn, 1) := by decide +kernel
theorem dX8_row_48 : decode cX8_row 48 = .ok (.aload_n 0, 1) := by decide +kernel
theorem dX8_row_49 : decode cX8_row 49 = .ok (.getfield 41, 3) := by decide +kernel
theorem dX8_row_52 : decode cX8_row 52 = .ok (.iconst 4, 1) := by decide +kernel
theorem dX8_row_53 : decode cX8_row 53 = .ok (.iload_n 1, 1) := by decide +kernel
theorem dX8_row_54 : decode cX8_row 54 = .ok (.imul, 1) := by decide +kernel
theorem dX8_row_55 : decode cX8_row 55 = .ok (.iload_n 2, 1) := by decide +kernel
theorem dX8_row_56 : decode cX8_row 56 = .ok (.iadd, 1) := by decide +kernel
theorem dX8_row_57 : decode cX8_row 57 = .ok (.iaload, 1) := by decide +kernel
theorem dX8_row_58 : decode cX8_row 58 = .ok (.istore 4, 2) := by decide +kernel
theorem dX8_row_60 : decode cX8_row 60 = .ok (.aload_n 0, 1) := by decide +kernel
theorem dX8_row_61 : decode cX8_row 61 = .ok (.getfield 41, 3) := by decide +kernel
theorem dX8_row_64 : decode cX8_row 64 = .ok (.iconst 4, 1) := by decide +kernel
theorem dX8_row_65 : decode cX8_row 65 = .ok (.iload_n 1, 1) := by decide +kernel
theorem dX8_row_66 : decode cX8_row 66 = .ok (.imul, 1) := by decide +kernel
theorem dX8_row_67 : decode cX8_row 67 = .ok (.iload_n 2, 1) := by decide +kernel
theorem dX8_row_68 : decode cX8_row 68 = .ok (.iadd, 1) := by decide +kernel
theorem dX8_row_69 : decode cX8_row 69 = .ok (.iload_n 3, 1) := by decide +kernel
theorem dX8_row_70 : decode cX8_row 70 = .ok (.iastore, 1) := by decide +kernel
theorem dX8_row_71 : decode cX8_row 71 = .ok (.iload 4, 2) := by decide +kernel
theorem dX8_row_73 : decode cX8_row 73 = .ok (.ireturn, 1) := by decide +kernel
theorem dX8_home_0 : decode cX8_home 0 = .ok (.aload_n 0, 1) := by decide +kernel
theorem dX8_home_1 : decode cX8_home 1 = .ok (.iload_n 1, 1) := by decide +kernel
theorem dX8_home_2 : decode cX8_home 2 = .ok (.invokevirtual 231, 3) := by decide +kernel
theorem dX8_home_5 : decode cX8_home 5 = .ok (.ifCond .ne 6, 3) := by decide +kernel
theorem dX8_home_8 : decode cX8_home 8 = .ok (.bipush (-2), 2) := by decide +kernel
theorem dX8_home_10 : decode cX8_home 10 = .ok (.ireturn, 1) := by decide +kernel
theorem dX8_home_11 : decode cX8_home 11 = .ok (.aload_n 0, 1) := by decide +kernel
theorem dX8_home_12 : decode cX8_home 12 = .ok (.getfield 25, 3) := by decide +kernel
theorem dX8_home_15 : decode cX8_home 15 = .ok (.istore_n 2, 1) := by decide +kernel
theorem dX8_home_16 : decode cX8_home 16 = .ok (.aload_n 0, 1) := by decide +kernel
theorem dX8_home_17 : decode cX8_home 17 = .ok (.iload_n 1, 1) := by decide +kernel
theorem dX8_home_18 : decode cX8_home 18 = .ok (.putfield 25, 3) := by decide +kernel
theorem dX8_home_21 : decode cX8_home 21 = .ok (.iload_n 2, 1) := by decide +kernel
theorem dX8_home_22 : decode cX8_home 22 = .ok (.ireturn, 1) := by decide +kernel
theorem dX8_height_0 : decode cX8_height 0 = .ok (.aload_n 0, 1) := by decide +kernel
theorem dX8_height_1 : decode cX8_height 1 = .ok (.iload_n 1, 1) := by decide +kernel
theorem dX8_height_2 : decode cX8_height 2 = .ok (.iconst 0, 1) := by decide +kernel
theorem dX8_height_3 : decode cX8_height 3 = .ok (.sipush 400, 3) := by decide +kernel
theorem dX8_height_6 : decode cX8_height 6 = .ok (.invokevirtual 227, 3) := by decide +kernel
theorem dX8_height_9 : decode cX8_height 9 = .ok (.ifCond .ne 6, 3) := by decide +kernel
theorem dX8_height_12 : decode cX8_height 12 = .ok (.bipush (-2), 2) := by decide +kernel
theorem dX8_height_14 : decode cX8_height 14 = .ok (.ireturn, 1) := by decide +kernel
theorem dX8_height_15 : decode cX8_height 15 = .ok (.aload_n 0, 1) := by decide +kernel
theorem dX8_height_16 : decode cX8_height 16 = .ok (.getfield 19, 3) := by decide +kernel
theorem dX8_height_19 : decode cX8_height 19 = .ok (.istore_n 2, 1) := by decide +kernel
theorem dX8_height_20 : decode cX8_height 20 = .ok (.aload_n 0, 1) := by decide +kernel
theorem dX8_height_21 : decode cX8_height 21 = .ok (.iload_n 1, 1) := by decide +kernel
theorem dX8_height_22 : decode cX8_height 22 = .ok (.putfield 19, 3) := by decide +kernel
theorem dX8_height_25 : decode cX8_height 25 = .ok (.iload_n 2, 1) := by decide +kernel
theorem dX8_height_26 : decode cX8_height 26 = .ok (.ireturn, 1) := by decide +kernel
theorem dX8_feed_0 : decode cX8_feed 0 = .ok (.aload_n 0, 1) := by decide +kernel
theorem dX8_feed_1 : decode cX8_feed 1 = .ok (.iload_n 1, 1) := by decide +kernel
theorem dX8_feed_2 : decode cX8_feed 2 = .ok (.iconst 0, 1) := by decide +kernel
theorem dX8_feed_3 : decode cX8_feed 3 = .ok (.bipush 127, 2) := by decide +kernel
theorem dX8_feed_5 : decode cX8_feed 5 = .ok (.invokevirtual 227, 3) := by decide +kernel
theorem dX8_feed_8 : decode cX8_feed 8 = .ok (.ifCond .ne 6, 3) := by decide +kernel
theorem dX8_feed_11 : decode cX8_feed 11 = .ok (.bipush (-2), 2) := by decide +kernel
theorem dX8_feed_13 : decode cX8_feed 13 = .ok (.ireturn, 1) := by decide +kernel
theorem dX8_feed_14 : decode cX8_feed 14 = .ok (.aload_n 0, 1) := by decide +kernel
theorem dX8_feed_15 : decode cX8_feed 15 = .ok (.getfield 50, 3) := by decide +kernel
theorem dX8_feed_18 : decode cX8_feed 18 = .ok (.bipush 100, 2) := by decide +kernel
theorem dX8_feed_20 : decode cX8_feed 20 = .ok (.if_icmp .ne 6, 3) := by decide +kernel
theorem dX8_feed_23 : decode cX8_feed 23 = .ok (.bipush (-4), 2) := by decide +kernel
theorem dX8_feed_25 : decode cX8_feed 25 = .ok (.ireturn, 1) := by decide +kernel
theorem dX8_feed_26 : decode cX8_feed 26 = .ok (.aload_n 0, 1) := by decide +kernel
theorem dX8_feed_27 : decode cX8_feed 27 = .ok (.getfield 59, 3) := by decide +kernel
theorem dX8_feed_30 : decode cX8_feed 30 = .ok (.aload_n 0, 1) := by decide +kernel
theorem dX8_feed_31 : decode cX8_feed 31 = .ok (.getfield 50, 3) := by decide +kernel
theorem dX8_feed_34 : decode cX8_feed 34 = .ok (.iload_n 1, 1) := by decide +kernel
theorem dX8_feed_35 : decode cX8_feed 35 = .ok (.iastore, 1) := by decide +kernel
theorem dX8_feed_36 : decode cX8_feed 36 = .ok (.aload_n 0, 1) := by decide +kernel
theorem dX8_feed_37 : decode cX8_feed 37 = .ok (.dup, 1) := by decide +kernel
theorem dX8_feed_38 : decode cX8_feed 38 = .ok (.getfield 50, 3) := by decide +kernel
theorem dX8_feed_41 : decode cX8_feed 41 = .ok (.iconst 1, 1) := by decide +kernel
theorem dX8_feed_42 : decode cX8_feed 42 = .ok (.iadd, 1) := by decide +kernel
theorem dX8_feed_43 : decode cX8_feed 43 = .ok (.putfield 50, 3) := by decide +kernel
theorem dX8_feed_46 : decode cX8_feed 46 = .ok (.aload_n 0, 1) := by decide +kernel
theorem dX8_feed_47 : decode cX8_feed 47 = .ok (.getfield 50, 3) := by decide +kernel
theorem dX8_feed_50 : decode cX8_feed 50 = .ok (.ireturn, 1) := by decide +kernel
theorem dX8_peek_0 : decode cX8_peek 0 = .ok (.aload_n 0, 1) := by decide +kernel
theorem dX8_peek_1 : decode cX8_peek 1 = .ok (.getfield 53, 3) := by decide +kernel
theorem dX8_peek_4 : decode cX8_peek 4 = .ok (.aload_n 0, 1) := by decide +kernel
theorem dX8_peek_5 : decode cX8_peek 5 = .ok (.getfield 50, 3) := by decide +kernel
theorem dX8_peek_8 : decode cX8_peek 8 = .ok (.if_icmp .ge 15, 3) := by decide +kernel
theorem dX8_peek_11 : decode cX8_peek 11 = .ok (.aload_n 0, 1) := by decide +kernel
theorem dX8_peek_12 : decode cX8_peek 12 = .ok (.getfield 59, 3) := by decide +kernel
theorem dX8_peek_15 : decode cX8_peek 15 = .ok (.aload_n 0, 1) := by decide +kernel
theorem dX8_peek_16 : decode cX8_peek 16 = .ok (.getfield 53, 3) := by decide +kernel
theorem dX8_peek_19 : decode cX8_peek 19 = .ok (.iaload, 1) := by decide +kernel
theorem dX8_peek_20 : decode cX8_peek 20 = .ok (.goto 4, 3) := by decide +kernel
theorem dX8_peek_23 : decode cX8_peek 23 = .ok (.iconst (-1), 1) := by decide +kernel
theorem dX8_peek_24 : decode cX8_peek 24 = .ok (.ireturn, 1) := by decide +kernel
theorem dX8_takes_0 : decode cX8_takes 0 = .ok (.aload_n 0, 1) := by decide +kernel
theorem dX8_takes_1 : decode cX8_takes 1 = .ok (.invokevirtual 238, 3) := by decide +kernel
theorem dX8_takes_4 : decode cX8_takes 4 = .ok (.iload_n 1, 1) := by decide +kernel
theorem dX8_takes_5 : decode cX8_takes 5 = .ok (.if_icmp .eq 5, 3) := by decide +kernel
theorem dX8_takes_8 : decode cX8_takes 8 = .ok (.iconst 0, 1) := by decide +kernel
theorem dX8_takes_9 : decode cX8_takes 9 = .ok (.ireturn, 1) := by decide +kernel
theorem dX8_takes_10 : decode cX8_takes 10 = .ok (.aload_n 0, 1) := by decide +kernel
theorem dX8_takes_11 : decode cX8_takes 11 = .ok (.dup, 1) := by decide +kernel
theorem dX8_takes_12 : decode cX8_takes 12 = .ok (.getfield 53, 3) := by decide +kernel
theorem dX8_takes_15 : decode cX8_takes 15 = .ok (.iconst 1, 1) := by decide +kernel
theorem dX8_takes_16 : decode cX8_takes 16 = .ok (.iadd, 1) := by decide +kernel
theorem dX8_takes_17 : decode cX8_takes 17 = .ok (.putfield 53, 3) := by decide +kernel
theorem dX8_takes_20 : decode cX8_takes 20 = .ok (.iconst 1, 1) := by decide +kernel
theorem dX8_takes_21 : decode cX8_takes 21 = .ok (.ireturn, 1) := by decide +kernel
theorem dX8_takesWord_0 : decode cX8_takesWord 0 = .ok (.iconst 0, 1) := by decide +kernel
theorem dX8_takesWord_1 : decode cX8_takesWord 1 = .ok (.istore_n 3, 1) := by decide +kernel
theorem dX8_takesWord_2 : decode cX8_takesWord 2 = .ok (.iload_n 3, 1) := by decide +kernel
theorem dX8_takesWord_3 : decode cX8_takesWord 3 = .ok (.iload_n 2, 1) := by decide +kernel
theorem dX8_takesWord_4 : decode cX8_takesWord 4 = .ok (.if_icmp .ge 26, 3) := by decide +kernel
theorem dX8_takesWord_7 : decode cX8_takesWord 7 = .ok (.aload_n 0, 1) := by decide +kernel
theorem dX8_takesWord_8 : decode cX8_takesWord 8 = .ok (.aload_n 0, 1) := by decide +kernel
theorem dX8_takesWord_9 : decode cX8_takesWord 9 = .ok (.getfield 92, 3) := by decide +kernel
theorem dX8_takesWord_12 : decode cX8_takesWord 12 = .ok (.iload_n 1, 1) := by decide +kernel
theorem dX8_takesWord_13 : decode cX8_takesWord 13 = .ok (.iload_n 3, 1) := by decide +kernel
theorem dX8_takesWord_14 : decode cX8_takesWord 14 = .ok (.iadd, 1) := by decide +kernel
theorem dX8_takesWord_15 : decode cX8_takesWord 15 = .ok (.iaload, 1) := by decide +kernel
theorem dX8_takesWord_16 : decode cX8_takesWord 16 = .ok (.invokevirtual 242, 3) := by decide +kernel
theorem dX8_takesWord_19 : decode cX8_takesWord 19 = .ok (.ifCond .ne 5, 3) := by decide +kernel
theorem dX8_takesWord_22 : decode cX8_takesWord 22 = .ok (.iconst 0, 1) := by decide +kernel
theorem dX8_takesWord_23 : decode cX8_takesWord 23 = .ok (.ireturn, 1) := by decide +kernel
theorem dX8_takesWord_24 : decode cX8_takesWord 24 = .ok (.iinc 3 1, 3) := by decide +kernel
theorem dX8_takesWord_27 : decode cX8_takesWord 27 = .ok (.goto (-25), 3) := by decide +kernel
theorem dX8_takesWord_30 : decode cX8_takesWord 30 = .ok (.aload_n 0, 1) := by decide +kernel
theorem dX8_takesWord_31 : decode cX8_takesWord 31 = .ok (.bipush 32, 2) := by decide +kernel
theorem dX8_takesWord_33 : decode cX8_takesWord 33 = .ok (.invokevirtual 242, 3) := by decide +kernel
theorem dX8_takesWord_36 : decode cX8_takesWord 36 = .ok (.ireturn, 1) := by decide +kernel
theorem dX8_isDigit_0 : decode cX8_isDigit 0 = .ok (.aload_n 0, 1) := by decide +kernel
theorem dX8_isDigit_1 : decode cX8_isDigit 1 = .ok (.aload_n 0, 1) := by decide +kernel
theorem dX8_isDigit_2 : decode cX8_isDigit 2 = .ok (.invokevirtual 238, 3) := by decide +kernel
theorem dX8_isDigit_5 : decode cX8_isDigit 5 = .ok (.bipush 48, 2) := by decide +kernel
theorem dX8_isDigit_7 : decode cX8_isDigit 7 = .ok (.bipush 57, 2) := by decide +kernel
theorem dX8_isDigit_9 : decode cX8_isDigit 9 = .ok (.invokevirtual 227, 3) := by decide +kernel
theorem dX8_isDigit_12 : decode cX8_isDigit 12 = .ok (.ireturn, 1) := by decide +kernel
theorem dX8_takesNumber_0 : decode cX8_takesNumber 0 = .ok (.aload_n 0, 1) := by decide +kernel
theorem dX8_takesNumber_1 : decode cX8_takesNumber 1 = .ok (.invokevirtual 245, 3) := by decide +kernel
theorem dX8_takesNumber_4 : decode cX8_takesNumber 4 = .ok (.ifCond .ne 5, 3) := by decide +kernel
theorem dX8_takesNumber_7 : decode cX8_takesNumber 7 = .ok (.iconst 0, 1) := by decide +kernel
theorem dX8_takesNumber_8 : decode cX8_takesNumber 8 = .ok (.ireturn, 1) := by decide +kernel
theorem dX8_takesNumber_9 : decode cX8_takesNumber 9 = .ok (.aload_n 0, 1) := by decide +kernel
theorem dX8_takesNumber_10 : decode cX8_takesNumber 10 = .ok (.iconst 0, 1) := by decide +kernel
theorem dX8_takesNumber_11 : decode cX8_takesNumber 11 = .ok (.putfield 56, 3) := by decide +kernel
theorem dX8_takesNumber_14 : decode cX8_takesNumber 14 = .ok (.iconst 0, 1) := by decide +kernel
theorem dX8_takesNumber_15 : decode cX8_takesNumber 15 = .ok (.istore_n 1, 1) := by decide +kernel
theorem dX8_takesNumber_16 : decode cX8_takesNumber 16 = .ok (.iload_n 1, 1) := by decide +kernel
theorem dX8_takesNumber_17 : decode cX8_takesNumber 17 = .ok (.iconst 2, 1) := by decide +kernel
theorem dX8_takesNumber_18 : decode cX8_takesNumber 18 = .ok (.if_icmp .ge 45, 3) := by decide +kernel
theorem dX8_takesNumber_21 : decode cX8_takesNumber 21 = .ok (.aload_n 0, 1) := by decide +kernel
theorem dX8_takesNumber_22 : decode cX8_takesNumber 22 = .ok (.invokevirtual 245, 3) := by decide +kernel
theorem dX8_takesNumber_25 : decode cX8_takesNumber 25 = .ok (.ifCond .eq 38, 3) := by decide +kernel
theorem dX8_takesNumber_28 : decode cX8_takesNumber 28 = .ok (.aload_n 0, 1) := by decide +kernel
theorem dX8_takesNumber_29 : decode cX8_takesNumber 29 = .ok (.bipush 10, 2) := by decide +kernel
theorem dX8_takesNumber_31 : decode cX8_takesNumber 31 = .ok (.aload_n 0, 1) := by decide +kernel
theorem dX8_takesNumber_32 : decode cX8_takesNumber 32 = .ok (.getfield 56, 3) := by decide +kernel
theorem dX8_takesNumber_35 : decode cX8_takesNumber 35 = .ok (.imul, 1) := by decide +kernel
theorem dX8_takesNumber_36 : decode cX8_takesNumber 36 = .ok (.aload_n 0, 1) := by decide +kernel
theorem dX8_takesNumber_37 : decode cX8_takesNumber 37 = .ok (.invokevirtual 238, 3) := by decide +kernel
theorem dX8_takesNumber_40 : decode cX8_takesNumber 40 = .ok (.iadd, 1) := by decide +kernel
theorem dX8_takesNumber_41 : decode cX8_takesNumber 41 = .ok (.bipush 48, 2) := by decide +kernel
theorem dX8_takesNumber_43 : decode cX8_takesNumber 43 = .ok (.isub, 1) := by decide +kernel
theorem dX8_takesNumber_44 : decode cX8_takesNumber 44 = .ok (.putfield 56, 3) := by decide +kernel
theorem dX8_takesNumber_47 : decode cX8_takesNumber 47 = .ok (.aload_n 0, 1) := by decide +kernel
theorem dX8_takesNumber_48 : decode cX8_takesNumber 48 = .ok (.dup, 1) := by decide +kernel
theorem dX8_takesNumber_49 : decode cX8_takesNumber 49 = .ok (.getfield 53, 3) := by decide +kernel
theorem dX8_takesNumber_52 : decode cX8_takesNumber 52 = .ok (.iconst 1, 1) := by decide +kernel
theorem dX8_takesNumber_53 : decode cX8_takesNumber 53 = .ok (.iadd, 1) := by decide +kernel
theorem dX8_takesNumber_54 : decode cX8_takesNumber 54 = .ok (.putfield 53, 3) := by decide +kernel
theorem dX8_takesNumber_57 : decode cX8_takesNumber 57 = .ok (.iinc 1 1, 3) := by decide +kernel
theorem dX8_takesNumber_60 : decode cX8_takesNumber 60 = .ok (.goto (-44), 3) := by decide +kernel
theorem dX8_takesNumber_63 : decode cX8_takesNumber 63 = .ok (.iconst 1, 1) := by decide +kernel
theorem dX8_takesNumber_64 : decode cX8_takesNumber 64 = .ok (.ireturn, 1) := by decide +kernel
theorem dX8_emits_0 : decode cX8_emits 0 = .ok (.aload_n 0, 1) := by decide +kernel
theorem dX8_emits_1 : decode cX8_emits 1 = .ok (.getfield 77, 3) := by decide +kernel
theorem dX8_emits_4 : decode cX8_emits 4 = .ok (.aload_n 0, 1) := by decide +kernel
theorem dX8_emits_5 : decode cX8_emits 5 = .ok (.getfield 83, 3) := by decide +kernel
theorem dX8_emits_8 : decode cX8_emits 8 = .ok (.iload_n 1, 1) := by decide +kernel
theorem dX8_emits_9 : decode cX8_emits 9 = .ok (.iastore, 1) := by decide +kernel
theorem dX8_emits_10 : decode cX8_emits 10 = .ok (.aload_n 0, 1) := by decide +kernel
theorem dX8_emits_11 : decode cX8_emits 11 = .ok (.dup, 1) := by decide +kernel
theorem dX8_emits_12 : decode cX8_emits 12 = .ok (.getfield 83, 3) := by decide +kernel
theorem dX8_emits_15 : decode cX8_emits 15 = .ok (.iconst 1, 1) := by decide +kernel
theorem dX8_emits_16 : decode cX8_emits 16 = .ok (.iadd, 1) := by decide +kernel
theorem dX8_emits_17 : decode cX8_emits 17 = .ok (.putfield 83, 3) := by decide +kernel
theorem dX8_emits_20 : decode cX8_emits 20 = .ok (.return_, 1) := by decide +kernel
theorem dX8_whole_0 : decode cX8_whole 0 = .ok (.aload_n 0, 1) := by decide +kernel
theorem dX8_whole_1 : decode cX8_whole 1 = .ok (.getfield 86, 3) := by decide +kernel
theorem dX8_whole_4 : decode cX8_whole 4 = .ok (.ifCond .le 48, 3) := by decide +kernel
theorem dX8_whole_7 : decode cX8_whole 7 = .ok (.aload_n 0, 1) := by decide +kernel
theorem dX8_whole_8 : decode cX8_whole 8 = .ok (.getfield 80, 3) := by decide +kernel
theorem dX8_whole_11 : decode cX8_whole 11 = .ok (.aload_n 0, 1) := by decide +kernel
theorem dX8_whole_12 : decode cX8_whole 12 = .ok (.getfield 86, 3) := by decide +kernel
theorem dX8_whole_15 : decode cX8_whole 15 = .ok (.iconst 1, 1) := by decide +kernel
theorem dX8_whole_16 : decode cX8_whole 16 = .ok (.isub, 1) := by decide +kernel
theorem dX8_whole_17 : decode cX8_whole 17 = .ok (.iaload, 1) := by decide +kernel
theorem dX8_whole_18 : decode cX8_whole 18 = .ok (.bipush 33, 2) := by decide +kernel
theorem dX8_whole_20 : decode cX8_whole 20 = .ok (.if_icmp .ne 32, 3) := by decide +kernel
theorem dX8_whole_23 : decode cX8_whole 23 = .ok (.aload_n 0, 1) := by decide +kernel
theorem dX8_whole_24 : decode cX8_whole 24 = .ok (.bipush (-33), 2) := by decide +kernel
theorem dX8_whole_26 : decode cX8_whole 26 = .ok (.invokevirtual 249, 3) := by decide +kernel
theorem dX8_whole_29 : decode cX8_whole 29 = .ok (.aload_n 0, 1) := by decide +kernel
theorem dX8_whole_30 : decode cX8_whole 30 = .ok (.dup, 1) := by decide +kernel
theorem dX8_whole_31 : decode cX8_whole 31 = .ok (.getfield 86, 3) := by decide +kernel
theorem dX8_whole_34 : decode cX8_whole 34 = .ok (.iconst 1, 1) := by decide +kernel
theorem dX8_whole_35 : decode cX8_whole 35 = .ok (.isub, 1) := by decide +kernel
theorem dX8_whole_36 : decode cX8_whole 36 = .ok (.putfield 86, 3) := by decide +kernel
theorem dX8_whole_39 : decode cX8_whole 39 = .ok (.aload_n 0, 1) := by decide +kernel
theorem dX8_whole_40 : decode cX8_whole 40 = .ok (.dup, 1) := by decide +kernel
theorem dX8_whole_41 : decode cX8_whole 41 = .ok (.getfield 89, 3) := by decide +kernel
theorem dX8_whole_44 : decode cX8_whole 44 = .ok (.iconst 1, 1) := by decide +kernel
theorem dX8_whole_45 : decode cX8_whole 45 = .ok (.isub, 1) := by decide +kernel
theorem dX8_whole_46 : decode cX8_whole 46 = .ok (.putfield 89, 3) := by decide +kernel
theorem dX8_whole_49 : decode cX8_whole 49 = .ok (.goto (-49), 3) := by decide +kernel
theorem dX8_whole_52 : decode cX8_whole 52 = .ok (.return_, 1) := by decide +kernel
theorem dX8_settle_0 : decode cX8_settle 0 = .ok (.aload_n 0, 1) := by decide +kernel
theorem dX8_settle_1 : decode cX8_settle 1 = .ok (.getfield 86, 3) := by decide +kernel
theorem dX8_settle_4 : decode cX8_settle 4 = .ok (.ifCond .le 68, 3) := by decide +kernel
theorem dX8_settle_7 : decode cX8_settle 7 = .ok (.aload_n 0, 1) := by decide +kernel
theorem dX8_settle_8 : decode cX8_settle 8 = .ok (.getfield 80, 3) := by decide +kernel
theorem dX8_settle_11 : decode cX8_settle 11 = .ok (.aload_n 0, 1) := by decide +kernel
theorem dX8_settle_12 : decode cX8_settle 12 = .ok (.getfield 86, 3) := by decide +kernel
theorem dX8_settle_15 : decode cX8_settle 15 = .ok (.iconst 1, 1) := by decide +kernel
theorem dX8_settle_16 : decode cX8_settle 16 = .ok (.isub, 1) := by decide +kernel
theorem dX8_settle_17 : decode cX8_settle 17 = .ok (.iaload, 1) := by decide +kernel
theorem dX8_settle_18 : decode cX8_settle 18 = .ok (.bipush 38, 2) := by decide +kernel
theorem dX8_settle_20 : decode cX8_settle 20 = .ok (.if_icmp .eq 25, 3) := by decide +kernel
theorem dX8_settle_23 : decode cX8_settle 23 = .ok (.aload_n 0, 1) := by decide +kernel
theorem dX8_settle_24 : decode cX8_settle 24 = .ok (.getfield 80, 3) := by decide +kernel
theorem dX8_settle_27 : decode cX8_settle 27 = .ok (.aload_n 0, 1) := by decide +kernel
theorem dX8_settle_28 : decode cX8_settle 28 = .ok (.getfield 86, 3) := by decide +kernel
theorem dX8_settle_31 : decode cX8_settle 31 = .ok (.iconst 1, 1) := by decide +kernel
theorem dX8_settle_32 : decode cX8_settle 32 = .ok (.isub, 1) := by decide +kernel
theorem dX8_settle_33 : decode cX8_settle 33 = .ok (.iaload, 1) := by decide +kernel
theorem dX8_settle_34 : decode cX8_settle 34 = .ok (.bipush 124, 2) := by decide +kernel
theorem dX8_settle_36 : decode cX8_settle 36 = .ok (.if_icmp .ne 36, 3) := by decide +kernel
theorem dX8_settle_39 : decode cX8_settle 39 = .ok (.iload_n 1, 1) := by decide +kernel
theorem dX8_settle_40 : decode cX8_settle 40 = .ok (.bipush 38, 2) := by decide +kernel
theorem dX8_settle_42 : decode cX8_settle 42 = .ok (.if_icmp .eq 30, 3) := by decide +kernel
theorem dX8_settle_45 : decode cX8_settle 45 = .ok (.aload_n 0, 1) := by decide +kernel
theorem dX8_settle_46 : decode cX8_settle 46 = .ok (.dup, 1) := by decide +kernel
theorem dX8_settle_47 : decode cX8_settle 47 = .ok (.getfield 86, 3) := by decide +kernel
theorem dX8_settle_50 : decode cX8_settle 50 = .ok (.iconst 1, 1) := by decide +kernel
theorem dX8_settle_51 : decode cX8_settle 51 = .ok (.isub, 1) := by decide +kernel
theorem dX8_settle_52 : decode cX8_settle 52 = .ok (.putfield 86, 3) := by decide +kernel
theorem dX8_settle_55 : decode cX8_settle 55 = .ok (.aload_n 0, 1) := by decide +kernel
theorem dX8_settle_56 : decode cX8_settle 56 = .ok (.aload_n 0, 1) := by decide +kernel
theorem dX8_settle_57 : decode cX8_settle 57 = .ok (.getfield 80, 3) := by decide +kernel
theorem dX8_settle_60 : decode cX8_settle 60 = .ok (.aload_n 0, 1) := by decide +kernel
theorem dX8_settle_61 : decode cX8_settle 61 = .ok (.getfield 86, 3) := by decide +kernel
theorem dX8_settle_64 : decode cX8_settle 64 = .ok (.iaload, 1) := by decide +kernel
theorem dX8_settle_65 : decode cX8_settle 65 = .ok (.ineg, 1) := by decide +kernel
theorem dX8_settle_66 : decode cX8_settle 66 = .ok (.invokevirtual 249, 3) := by decide +kernel
theorem dX8_settle_69 : decode cX8_settle 69 = .ok (.goto (-69), 3) := by decide +kernel
theorem dX8_settle_72 : decode cX8_settle 72 = .ok (.return_, 1) := by decide +kernel
theorem dX8_place_0 : decode cX8_place 0 = .ok (.iload_n 1, 1) := by decide +kernel
theorem dX8_place_1 : decode cX8_place 1 = .ok (.tableswitch 87 104 118 #[79, 87, 87, 77, 75, 85, 87, 87, 87, 87, 87, 87, 81, 87, 83], 75) := by decide +kernel
theorem dX8_place_76 : decode cX8_place 76 = .ok (.iconst 0, 1) := by decide +kernel
theorem dX8_place_77 : decode cX8_place 77 = .ok (.ireturn, 1) := by decide +kernel
theorem dX8_place_78 : decode cX8_place 78 = .ok (.iconst 1, 1) := by decide +kernel
theorem dX8_place_79 : decode cX8_place 79 = .ok (.ireturn, 1) := by decide +kernel
theorem dX8_place_80 : decode cX8_place 80 = .ok (.iconst 2, 1) := by decide +kernel
theorem dX8_place_81 : decode cX8_place 81 = .ok (.ireturn, 1) := by decide +kernel
theorem dX8_place_82 : decode cX8_place 82 = .ok (.iconst 3, 1) := by decide +kernel
theorem dX8_place_83 : decode cX8_place 83 = .ok (.ireturn, 1) := by decide +kernel
theorem dX8_place_84 : decode cX8_place 84 = .ok (.iconst 4, 1) := by decide +kernel
theorem dX8_place_85 : decode cX8_place 85 = .ok (.ireturn, 1) := by decide +kernel
theorem dX8_place_86 : decode cX8_place 86 = .ok (.iconst 5, 1) := by decide +kernel
theorem dX8_place_87 : decode cX8_place 87 = .ok (.ireturn, 1) := by decide +kernel
theorem dX8_place_88 : decode cX8_place 88 = .ok (.iconst (-1), 1) := by decide +kernel
theorem dX8_place_89 : decode cX8_place 89 = .ok (.ireturn, 1) := by decide +kernel
theorem dX8_takesTest_0 : decode cX8_takesTest 0 = .ok (.aload_n 0, 1) := by decide +kernel
theorem dX8_takesTest_1 : decode cX8_takesTest 1 = .ok (.aload_n 0, 1) := by decide +kernel
theorem dX8_takesTest_2 : decode cX8_takesTest 2 = .ok (.invokevirtual 238, 3) := by decide +kernel
theorem dX8_takesTest_5 : decode cX8_takesTest 5 = .ok (.invokevirtual 253, 3) := by decide +kernel
theorem dX8_takesTest_8 : decode cX8_takesTest 8 = .ok (.istore_n 1, 1) := by decide +kernel
theorem dX8_takesTest_9 : decode cX8_takesTest 9 = .ok (.iload_n 1, 1) := by decide +kernel
theorem dX8_takesTest_10 : decode cX8_takesTest 10 = .ok (.ifCond .ge 5, 3) := by decide +kernel
theorem dX8_takesTest_13 : decode cX8_takesTest 13 = .ok (.iconst 0, 1) := by decide +kernel
theorem dX8_takesTest_14 : decode cX8_takesTest 14 = .ok (.ireturn, 1) := by decide +kernel
theorem dX8_takesTest_15 : decode cX8_takesTest 15 = .ok (.aload_n 0, 1) := by decide +kernel
theorem dX8_takesTest_16 : decode cX8_takesTest 16 = .ok (.dup, 1) := by decide +kernel
theorem dX8_takesTest_17 : decode cX8_takesTest 17 = .ok (.getfield 53, 3) := by decide +kernel
theorem dX8_takesTest_20 : decode cX8_takesTest 20 = .ok (.iconst 1, 1) := by decide +kernel
theorem dX8_takesTest_21 : decode cX8_takesTest 21 = .ok (.iadd, 1) := by decide +kernel
theorem dX8_takesTest_22 : decode cX8_takesTest 22 = .ok (.putfield 53, 3) := by decide +kernel
theorem dX8_takesTest_25 : decode cX8_takesTest 25 = .ok (.aload_n 0, 1) := by decide +kernel
theorem dX8_takesTest_26 : decode cX8_takesTest 26 = .ok (.invokevirtual 238, 3) := by decide +kernel
theorem dX8_takesTest_29 : decode cX8_takesTest 29 = .ok (.istore_n 2, 1) := by decide +kernel
theorem dX8_takesTest_30 : decode cX8_takesTest 30 = .ok (.aload_n 0, 1) := by decide +kernel
theorem dX8_takesTest_31 : decode cX8_takesTest 31 = .ok (.iload_n 2, 1) := by decide +kernel
theorem dX8_takesTest_32 : decode cX8_takesTest 32 = .ok (.bipush 60, 2) := by decide +kernel
theorem dX8_takesTest_34 : decode cX8_takesTest 34 = .ok (.bipush 62, 2) := by decide +kernel
theorem dX8_takesTest_36 : decode cX8_takesTest 36 = .ok (.invokevirtual 227, 3) := by decide +kernel
theorem dX8_takesTest_39 : decode cX8_takesTest 39 = .ok (.ifCond .ne 5, 3) := by decide +kernel
theorem dX8_takesTest_42 : decode cX8_takesTest 42 = .ok (.iconst 0, 1) := by decide +kernel
theorem dX8_takesTest_43 : decode cX8_takesTest 43 = .ok (.ireturn, 1) := by decide +kernel
theorem dX8_takesTest_44 : decode cX8_takesTest 44 = .ok (.aload_n 0, 1) := by decide +kernel
theorem dX8_takesTest_45 : decode cX8_takesTest 45 = .ok (.dup, 1) := by decide +kernel
theorem dX8_takesTest_46 : decode cX8_takesTest 46 = .ok (.getfield 53, 3) := by decide +kernel
theorem dX8_takesTest_49 : decode cX8_takesTest 49 = .ok (.iconst 1, 1) := by decide +kernel
theorem dX8_takesTest_50 : decode cX8_takesTest 50 = .ok (.iadd, 1) := by decide +kernel
theorem dX8_takesTest_51 : decode cX8_takesTest 51 = .ok (.putfield 53, 3) := by decide +kernel
theorem dX8_takesTest_54 : decode cX8_takesTest 54 = .ok (.aload_n 0, 1) := by decide +kernel
theorem dX8_takesTest_55 : decode cX8_takesTest 55 = .ok (.invokevirtual 257, 3) := by decide +kernel
theorem dX8_takesTest_58 : decode cX8_takesTest 58 = .ok (.ifCond .ne 5, 3) := by decide +kernel
theorem dX8_takesTest_61 : decode cX8_takesTest 61 = .ok (.iconst 0, 1) := by decide +kernel
theorem dX8_takesTest_62 : decode cX8_takesTest 62 = .ok (.ireturn, 1) := by decide +kernel
theorem dX8_takesTest_63 : decode cX8_takesTest 63 = .ok (.aload_n 0, 1) := by decide +kernel
theorem dX8_takesTest_64 : decode cX8_takesTest 64 = .ok (.sipush 1000, 3) := by decide +kernel
theorem dX8_takesTest_67 : decode cX8_takesTest 67 = .ok (.iload_n 1, 1) := by decide +kernel
theorem dX8_takesTest_68 : decode cX8_takesTest 68 = .ok (.imul, 1) := by decide +kernel
theorem dX8_takesTest_69 : decode cX8_takesTest 69 = .ok (.bipush 100, 2) := by decide +kernel
theorem dX8_takesTest_71 : decode cX8_takesTest 71 = .ok (.iload_n 2, 1) := by decide +kernel
theorem dX8_takesTest_72 : decode cX8_takesTest 72 = .ok (.bipush 60, 2) := by decide +kernel
theorem dX8_takesTest_74 : decode cX8_takesTest 74 = .ok (.isub, 1) := by decide +kernel
theorem dX8_takesTest_75 : decode cX8_takesTest 75 = .ok (.imul, 1) := by decide +kernel
theorem dX8_takesTest_76 : decode cX8_takesTest 76 = .ok (.iadd, 1) := by decide +kernel
theorem dX8_takesTest_77 : decode cX8_takesTest 77 = .ok (.aload_n 0, 1) := by decide +kernel
theorem dX8_takesTest_78 : decode cX8_takesTest 78 = .ok (.getfield 56, 3) := by decide +kernel
theorem dX8_takesTest_81 : decode cX8_takesTest 81 = .ok (.iadd, 1) := by decide +kernel
theorem dX8_takesTest_82 : decode cX8_takesTest 82 = .ok (.invokevirtual 249, 3) := by decide +kernel
theorem dX8_takesTest_85 : decode cX8_takesTest 85 = .ok (.aload_n 0, 1) := by decide +kernel
theorem dX8_takesTest_86 : decode cX8_takesTest 86 = .ok (.invokevirtual 260, 3) := by decide +kernel
theorem dX8_takesTest_89 : decode cX8_takesTest 89 = .ok (.iconst 1, 1) := by decide +kernel
theorem dX8_takesTest_90 : decode cX8_takesTest 90 = .ok (.ireturn, 1) := by decide +kernel
theorem dX8_takesE_0 : decode cX8_takesE 0 = .ok (.aload_n 0, 1) := by decide +kernel
theorem dX8_takesE_1 : decode cX8_takesE 1 = .ok (.iconst 0, 1) := by decide +kernel
theorem dX8_takesE_2 : decode cX8_takesE 2 = .ok (.putfield 86, 3) := by decide +kernel
theorem dX8_takesE_5 : decode cX8_takesE 5 = .ok (.aload_n 0, 1) := by decide +kernel
theorem dX8_takesE_6 : decode cX8_takesE 6 = .ok (.iconst 0, 1) := by decide +kernel
theorem dX8_takesE_7 : decode cX8_takesE 7 = .ok (.putfield 89, 3) := by decide +kernel
theorem dX8_takesE_10 : decode cX8_takesE 10 = .ok (.aload_n 0, 1) := by decide +kernel
theorem dX8_takesE_11 : decode cX8_takesE 11 = .ok (.getfield 71, 3) := by decide +kernel
theorem dX8_takesE_14 : decode cX8_takesE 14 = .ok (.iload_n 1, 1) := by decide +kernel
theorem dX8_takesE_15 : decode cX8_takesE 15 = .ok (.aload_n 0, 1) := by decide +kernel
theorem dX8_takesE_16 : decode cX8_takesE 16 = .ok (.getfield 83, 3) := by decide +kernel
theorem dX8_takesE_19 : decode cX8_takesE 19 = .ok (.iastore, 1) := by decide +kernel
theorem dX8_takesE_20 : decode cX8_takesE 20 = .ok (.iconst 1, 1) := by decide +kernel
theorem dX8_takesE_21 : decode cX8_takesE 21 = .ok (.istore_n 2, 1) := by decide +kernel
theorem dX8_takesE_22 : decode cX8_takesE 22 = .ok (.aload_n 0, 1) := by decide +kernel
theorem dX8_takesE_23 : decode cX8_takesE 23 = .ok (.invokevirtual 238, 3) := by decide +kernel
theorem dX8_takesE_26 : decode cX8_takesE 26 = .ok (.istore_n 3, 1) := by decide +kernel
theorem dX8_takesE_27 : decode cX8_takesE 27 = .ok (.iload_n 2, 1) := by decide +kernel
theorem dX8_takesE_28 : decode cX8_takesE 28 = .ok (.ifCond .eq 82, 3) := by decide +kernel
theorem dX8_takesE_31 : decode cX8_takesE 31 = .ok (.iload_n 3, 1) := by decide +kernel
theorem dX8_takesE_32 : decode cX8_takesE 32 = .ok (.bipush 33, 2) := by decide +kernel
theorem dX8_takesE_34 : decode cX8_takesE 34 = .ok (.if_icmp .eq 9, 3) := by decide +kernel
theorem dX8_takesE_37 : decode cX8_takesE 37 = .ok (.iload_n 3, 1) := by decide +kernel
theorem dX8_takesE_38 : decode cX8_takesE 38 = .ok (.bipush 40, 2) := by decide +kernel
theorem dX8_takesE_40 : decode cX8_takesE 40 = .ok (.if_icmp .ne 56, 3) := by decide +kernel
theorem dX8_takesE_43 : decode cX8_takesE 43 = .ok (.aload_n 0, 1) := by decide +kernel
theorem dX8_takesE_44 : decode cX8_takesE 44 = .ok (.getfield 89, 3) := by decide +kernel
theorem dX8_takesE_47 : decode cX8_takesE 47 = .ok (.iconst 4, 1) := by decide +kernel
theorem dX8_takesE_48 : decode cX8_takesE 48 = .ok (.if_icmp .ne 5, 3) := by decide +kernel
theorem dX8_takesE_51 : decode cX8_takesE 51 = .ok (.iconst 0, 1) := by decide +kernel
theorem dX8_takesE_52 : decode cX8_takesE 52 = .ok (.ireturn, 1) := by decide +kernel
theorem dX8_takesE_53 : decode cX8_takesE 53 = .ok (.aload_n 0, 1) := by decide +kernel
theorem dX8_takesE_54 : decode cX8_takesE 54 = .ok (.dup, 1) := by decide +kernel
theorem dX8_takesE_55 : decode cX8_takesE 55 = .ok (.getfield 89, 3) := by decide +kernel
theorem dX8_takesE_58 : decode cX8_takesE 58 = .ok (.iconst 1, 1) := by decide +kernel
theorem dX8_takesE_59 : decode cX8_takesE 59 = .ok (.iadd, 1) := by decide +kernel
theorem dX8_takesE_60 : decode cX8_takesE 60 = .ok (.putfield 89, 3) := by decide +kernel
theorem dX8_takesE_63 : decode cX8_takesE 63 = .ok (.aload_n 0, 1) := by decide +kernel
theorem dX8_takesE_64 : decode cX8_takesE 64 = .ok (.getfield 80, 3) := by decide +kernel
theorem dX8_takesE_67 : decode cX8_takesE 67 = .ok (.aload_n 0, 1) := by decide +kernel
theorem dX8_takesE_68 : decode cX8_takesE 68 = .ok (.getfield 86, 3) := by decide +kernel
theorem dX8_takesE_71 : decode cX8_takesE 71 = .ok (.iload_n 3, 1) := by decide +kernel
theorem dX8_takesE_72 : decode cX8_takesE 72 = .ok (.iastore, 1) := by decide +kernel
theorem dX8_takesE_73 : decode cX8_takesE 73 = .ok (.aload_n 0, 1) := by decide +kernel
theorem dX8_takesE_74 : decode cX8_takesE 74 = .ok (.dup, 1) := by decide +kernel
theorem dX8_takesE_75 : decode cX8_takesE 75 = .ok (.getfield 86, 3) := by decide +kernel
theorem dX8_takesE_78 : decode cX8_takesE 78 = .ok (.iconst 1, 1) := by decide +kernel
theorem dX8_takesE_79 : decode cX8_takesE 79 = .ok (.iadd, 1) := by decide +kernel
theorem dX8_takesE_80 : decode cX8_takesE 80 = .ok (.putfield 86, 3) := by decide +kernel
theorem dX8_takesE_83 : decode cX8_takesE 83 = .ok (.aload_n 0, 1) := by decide +kernel
theorem dX8_takesE_84 : decode cX8_takesE 84 = .ok (.dup, 1) := by decide +kernel
theorem dX8_takesE_85 : decode cX8_takesE 85 = .ok (.getfield 53, 3) := by decide +kernel
theorem dX8_takesE_88 : decode cX8_takesE 88 = .ok (.iconst 1, 1) := by decide +kernel
theorem dX8_takesE_89 : decode cX8_takesE 89 = .ok (.iadd, 1) := by decide +kernel
theorem dX8_takesE_90 : decode cX8_takesE 90 = .ok (.putfield 53, 3) := by decide +kernel
theorem dX8_takesE_93 : decode cX8_takesE 93 = .ok (.goto (-71), 3) := by decide +kernel
theorem dX8_takesE_96 : decode cX8_takesE 96 = .ok (.aload_n 0, 1) := by decide +kernel
theorem dX8_takesE_97 : decode cX8_takesE 97 = .ok (.invokevirtual 263, 3) := by decide +kernel
theorem dX8_takesE_100 : decode cX8_takesE 100 = .ok (.ifCond .eq 8, 3) := by decide +kernel
theorem dX8_takesE_103 : decode cX8_takesE 103 = .ok (.iconst 0, 1) := by decide +kernel
theorem dX8_takesE_104 : decode cX8_takesE 104 = .ok (.istore_n 2, 1) := by decide +kernel
theorem dX8_takesE_105 : decode cX8_takesE 105 = .ok (.goto (-83), 3) := by decide +kernel
theorem dX8_takesE_108 : decode cX8_takesE 108 = .ok (.iconst 0, 1) := by decide +kernel
theorem dX8_takesE_109 : decode cX8_takesE 109 = .ok (.ireturn, 1) := by decide +kernel
theorem dX8_takesE_110 : decode cX8_takesE 110 = .ok (.iload_n 3, 1) := by decide +kernel
theorem dX8_takesE_111 : decode cX8_takesE 111 = .ok (.bipush 38, 2) := by decide +kernel
theorem dX8_takesE_113 : decode cX8_takesE 113 = .ok (.if_icmp .eq 9, 3) := by decide +kernel
theorem dX8_takesE_116 : decode cX8_takesE 116 = .ok (.iload_n 3, 1) := by decide +kernel
theorem dX8_takesE_117 : decode cX8_takesE 117 = .ok (.bipush 124, 2) := by decide +kernel
theorem dX8_takesE_119 : decode cX8_takesE 119 = .ok (.if_icmp .ne 43, 3) := by decide +kernel
theorem dX8_takesE_122 : decode cX8_takesE 122 = .ok (.aload_n 0, 1) := by decide +kernel
theorem dX8_takesE_123 : decode cX8_takesE 123 = .ok (.iload_n 3, 1) := by decide +kernel
theorem dX8_takesE_124 : decode cX8_takesE 124 = .ok (.invokevirtual 266, 3) := by decide +kernel
theorem dX8_takesE_127 : decode cX8_takesE 127 = .ok (.aload_n 0, 1) := by decide +kernel
theorem dX8_takesE_128 : decode cX8_takesE 128 = .ok (.getfield 80, 3) := by decide +kernel
theorem dX8_takesE_131 : decode cX8_takesE 131 = .ok (.aload_n 0, 1) := by decide +kernel
theorem dX8_takesE_132 : decode cX8_takesE 132 = .ok (.getfield 86, 3) := by decide +kernel
theorem dX8_takesE_135 : decode cX8_takesE 135 = .ok (.iload_n 3, 1) := by decide +kernel
theorem dX8_takesE_136 : decode cX8_takesE 136 = .ok (.iastore, 1) := by decide +kernel
theorem dX8_takesE_137 : decode cX8_takesE 137 = .ok (.aload_n 0, 1) := by decide +kernel
theorem dX8_takesE_138 : decode cX8_takesE 138 = .ok (.dup, 1) := by decide +kernel
theorem dX8_takesE_139 : decode cX8_takesE 139 = .ok (.getfield 86, 3) := by decide +kernel
theorem dX8_takesE_142 : decode cX8_takesE 142 = .ok (.iconst 1, 1) := by decide +kernel
theorem dX8_takesE_143 : decode cX8_takesE 143 = .ok (.iadd, 1) := by decide +kernel
theorem dX8_takesE_144 : decode cX8_takesE 144 = .ok (.putfield 86, 3) := by decide +kernel
theorem dX8_takesE_147 : decode cX8_takesE 147 = .ok (.iconst 1, 1) := by decide +kernel
theorem dX8_takesE_148 : decode cX8_takesE 148 = .ok (.istore_n 2, 1) := by decide +kernel
theorem dX8_takesE_149 : decode cX8_takesE 149 = .ok (.aload_n 0, 1) := by decide +kernel
theorem dX8_takesE_150 : decode cX8_takesE 150 = .ok (.dup, 1) := by decide +kernel
theorem dX8_takesE_151 : decode cX8_takesE 151 = .ok (.getfield 53, 3) := by decide +kernel
theorem dX8_takesE_154 : decode cX8_takesE 154 = .ok (.iconst 1, 1) := by decide +kernel
theorem dX8_takesE_155 : decode cX8_takesE 155 = .ok (.iadd, 1) := by decide +kernel
theorem dX8_takesE_156 : decode cX8_takesE 156 = .ok (.putfield 53, 3) := by decide +kernel
theorem dX8_takesE_159 : decode cX8_takesE 159 = .ok (.goto (-137), 3) := by decide +kernel
theorem dX8_takesE_162 : decode cX8_takesE 162 = .ok (.aload_n 0, 1) := by decide +kernel
theorem dX8_takesE_163 : decode cX8_takesE 163 = .ok (.bipush 124, 2) := by decide +kernel
theorem dX8_takesE_165 : decode cX8_takesE 165 = .ok (.invokevirtual 266, 3) := by decide +kernel
theorem dX8_takesE_168 : decode cX8_takesE 168 = .ok (.aload_n 0, 1) := by decide +kernel
theorem dX8_takesE_169 : decode cX8_takesE 169 = .ok (.getfield 74, 3) := by decide +kernel
theorem dX8_takesE_172 : decode cX8_takesE 172 = .ok (.iload_n 1, 1) := by decide +kernel
theorem dX8_takesE_173 : decode cX8_takesE 173 = .ok (.aload_n 0, 1) := by decide +kernel
theorem dX8_takesE_174 : decode cX8_takesE 174 = .ok (.getfield 83, 3) := by decide +kernel
theorem dX8_takesE_177 : decode cX8_takesE 177 = .ok (.iastore, 1) := by decide +kernel
theorem dX8_takesE_178 : decode cX8_takesE 178 = .ok (.aload_n 0, 1) := by decide +kernel
theorem dX8_takesE_179 : decode cX8_takesE 179 = .ok (.getfield 86, 3) := by decide +kernel
theorem dX8_takesE_182 : decode cX8_takesE 182 = .ok (.ifCond .ne 5, 3) := by decide +kernel
theorem dX8_takesE_185 : decode cX8_takesE 185 = .ok (.iconst 1, 1) := by decide +kernel
theorem dX8_takesE_186 : decode cX8_takesE 186 = .ok (.ireturn, 1) := by decide +kernel
theorem dX8_takesE_187 : decode cX8_takesE 187 = .ok (.iload_n 3, 1) := by decide +kernel
theorem dX8_takesE_188 : decode cX8_takesE 188 = .ok (.bipush 41, 2) := by decide +kernel
theorem dX8_takesE_190 : decode cX8_takesE 190 = .ok (.if_icmp .eq 5, 3) := by decide +kernel
theorem dX8_takesE_193 : decode cX8_takesE 193 = .ok (.iconst 0, 1) := by decide +kernel
theorem dX8_takesE_194 : decode cX8_takesE 194 = .ok (.ireturn, 1) := by decide +kernel
theorem dX8_takesE_195 : decode cX8_takesE 195 = .ok (.aload_n 0, 1) := by decide +kernel
theorem dX8_takesE_196 : decode cX8_takesE 196 = .ok (.dup, 1) := by decide +kernel
theorem dX8_takesE_197 : decode cX8_takesE 197 = .ok (.getfield 86, 3) := by decide +kernel
theorem dX8_takesE_200 : decode cX8_takesE 200 = .ok (.iconst 1, 1) := by decide +kernel
theorem dX8_takesE_201 : decode cX8_takesE 201 = .ok (.isub, 1) := by decide +kernel
theorem dX8_takesE_202 : decode cX8_takesE 202 = .ok (.putfield 86, 3) := by decide +kernel
theorem dX8_takesE_205 : decode cX8_takesE 205 = .ok (.aload_n 0, 1) := by decide +kernel
theorem dX8_takesE_206 : decode cX8_takesE 206 = .ok (.dup, 1) := by decide +kernel
theorem dX8_takesE_207 : decode cX8_takesE 207 = .ok (.getfield 89, 3) := by decide +kernel
theorem dX8_takesE_210 : decode cX8_takesE 210 = .ok (.iconst 1, 1) := by decide +kernel
theorem dX8_takesE_211 : decode cX8_takesE 211 = .ok (.isub, 1) := by decide +kernel
theorem dX8_takesE_212 : decode cX8_takesE 212 = .ok (.putfield 89, 3) := by decide +kernel
theorem dX8_takesE_215 : decode cX8_takesE 215 = .ok (.aload_n 0, 1) := by decide +kernel
theorem dX8_takesE_216 : decode cX8_takesE 216 = .ok (.dup, 1) := by decide +kernel
theorem dX8_takesE_217 : decode cX8_takesE 217 = .ok (.getfield 53, 3) := by decide +kernel
theorem dX8_takesE_220 : decode cX8_takesE 220 = .ok (.iconst 1, 1) := by decide +kernel
theorem dX8_takesE_221 : decode cX8_takesE 221 = .ok (.iadd, 1) := by decide +kernel
theorem dX8_takesE_222 : decode cX8_takesE 222 = .ok (.putfield 53, 3) := by decide +kernel
theorem dX8_takesE_225 : decode cX8_takesE 225 = .ok (.aload_n 0, 1) := by decide +kernel
theorem dX8_takesE_226 : decode cX8_takesE 226 = .ok (.invokevirtual 260, 3) := by decide +kernel
theorem dX8_takesE_229 : decode cX8_takesE 229 = .ok (.goto (-207), 3) := by decide +kernel
theorem dX8_takesHead_0 : decode cX8_takesHead 0 = .ok (.aload_n 0, 1) := by decide +kernel
theorem dX8_takesHead_1 : decode cX8_takesHead 1 = .ok (.invokevirtual 238, 3) := by decide +kernel
theorem dX8_takesHead_4 : decode cX8_takesHead 4 = .ok (.lookupswitch 79 #[(98, 64), (100, 50), (117, 36)], 36) := by decide +kernel
theorem dX8_takesHead_40 : decode cX8_takesHead 40 = .ok (.aload_n 0, 1) := by decide +kernel
theorem dX8_takesHead_41 : decode cX8_takesHead 41 = .ok (.getfield 65, 3) := by decide +kernel
theorem dX8_takesHead_44 : decode cX8_takesHead 44 = .ok (.iload_n 1, 1) := by decide +kernel
theorem dX8_takesHead_45 : decode cX8_takesHead 45 = .ok (.iconst 0, 1) := by decide +kernel
theorem dX8_takesHead_46 : decode cX8_takesHead 46 = .ok (.iastore, 1) := by decide +kernel
theorem dX8_takesHead_47 : decode cX8_takesHead 47 = .ok (.aload_n 0, 1) := by decide +kernel
theorem dX8_takesHead_48 : decode cX8_takesHead 48 = .ok (.iconst 0, 1) := by decide +kernel
theorem dX8_takesHead_49 : decode cX8_takesHead 49 = .ok (.iconst 2, 1) := by decide +kernel
theorem dX8_takesHead_50 : decode cX8_takesHead 50 = .ok (.invokevirtual 269, 3) := by decide +kernel
theorem dX8_takesHead_53 : decode cX8_takesHead 53 = .ok (.ireturn, 1) := by decide +kernel
theorem dX8_takesHead_54 : decode cX8_takesHead 54 = .ok (.aload_n 0, 1) := by decide +kernel
theorem dX8_takesHead_55 : decode cX8_takesHead 55 = .ok (.getfield 65, 3) := by decide +kernel
theorem dX8_takesHead_58 : decode cX8_takesHead 58 = .ok (.iload_n 1, 1) := by decide +kernel
theorem dX8_takesHead_59 : decode cX8_takesHead 59 = .ok (.iconst 1, 1) := by decide +kernel
theorem dX8_takesHead_60 : decode cX8_takesHead 60 = .ok (.iastore, 1) := by decide +kernel
theorem dX8_takesHead_61 : decode cX8_takesHead 61 = .ok (.aload_n 0, 1) := by decide +kernel
theorem dX8_takesHead_62 : decode cX8_takesHead 62 = .ok (.iconst 2, 1) := by decide +kernel
theorem dX8_takesHead_63 : decode cX8_takesHead 63 = .ok (.iconst 4, 1) := by decide +kernel
theorem dX8_takesHead_64 : decode cX8_takesHead 64 = .ok (.invokevirtual 269, 3) := by decide +kernel
theorem dX8_takesHead_67 : decode cX8_takesHead 67 = .ok (.ireturn, 1) := by decide +kernel
theorem dX8_takesHead_68 : decode cX8_takesHead 68 = .ok (.aload_n 0, 1) := by decide +kernel
theorem dX8_takesHead_69 : decode cX8_takesHead 69 = .ok (.getfield 65, 3) := by decide +kernel
theorem dX8_takesHead_72 : decode cX8_takesHead 72 = .ok (.iload_n 1, 1) := by decide +kernel
theorem dX8_takesHead_73 : decode cX8_takesHead 73 = .ok (.iconst 2, 1) := by decide +kernel
theorem dX8_takesHead_74 : decode cX8_takesHead 74 = .ok (.iastore, 1) := by decide +kernel
theorem dX8_takesHead_75 : decode cX8_takesHead 75 = .ok (.aload_n 0, 1) := by decide +kernel
theorem dX8_takesHead_76 : decode cX8_takesHead 76 = .ok (.bipush 6, 2) := by decide +kernel
theorem dX8_takesHead_78 : decode cX8_takesHead 78 = .ok (.iconst 4, 1) := by decide +kernel
theorem dX8_takesHead_79 : decode cX8_takesHead 79 = .ok (.invokevirtual 269, 3) := by decide +kernel
theorem dX8_takesHead_82 : decode cX8_takesHead 82 = .ok (.ireturn, 1) := by decide +kernel
theorem dX8_takesHead_83 : decode cX8_takesHead 83 = .ok (.aload_n 0, 1) := by decide +kernel
theorem dX8_takesHead_84 : decode cX8_takesHead 84 = .ok (.getfield 65, 3) := by decide +kernel
theorem dX8_takesHead_87 : decode cX8_takesHead 87 = .ok (.iload_n 1, 1) := by decide +kernel
theorem dX8_takesHead_88 : decode cX8_takesHead 88 = .ok (.iconst 3, 1) := by decide +kernel
theorem dX8_takesHead_89 : decode cX8_takesHead 89 = .ok (.iastore, 1) := by decide +kernel
theorem dX8_takesHead_90 : decode cX8_takesHead 90 = .ok (.aload_n 0, 1) := by decide +kernel
theorem dX8_takesHead_91 : decode cX8_takesHead 91 = .ok (.bipush 10, 2) := by decide +kernel
theorem dX8_takesHead_93 : decode cX8_takesHead 93 = .ok (.iconst 4, 1) := by decide +kernel
theorem dX8_takesHead_94 : decode cX8_takesHead 94 = .ok (.invokevirtual 269, 3) := by decide +kernel
theorem dX8_takesHead_97 : decode cX8_takesHead 97 = .ok (.ireturn, 1) := by decide +kernel
theorem dX8_takesClause_0 : decode cX8_takesClause 0 = .ok (.aload_n 0, 1) := by decide +kernel
theorem dX8_takesClause_1 : decode cX8_takesClause 1 = .ok (.iload_n 1, 1) := by decide +kernel
theorem dX8_takesClause_2 : decode cX8_takesClause 2 = .ok (.invokevirtual 273, 3) := by decide +kernel
theorem dX8_takesClause_5 : decode cX8_takesClause 5 = .ok (.ifCond .eq 10, 3) := by decide +kernel
theorem dX8_takesClause_8 : decode cX8_takesClause 8 = .ok (.aload_n 0, 1) := by decide +kernel
theorem dX8_takesClause_9 : decode cX8_takesClause 9 = .ok (.invokevirtual 257, 3) := by decide +kernel
theorem dX8_takesClause_12 : decode cX8_takesClause 12 = .ok (.ifCond .ne 5, 3) := by decide +kernel
theorem dX8_takesClause_15 : decode cX8_takesClause 15 = .ok (.iconst 0, 1) := by decide +kernel
theorem dX8_takesClause_16 : decode cX8_takesClause 16 = .ok (.ireturn, 1) := by decide +kernel
theorem dX8_takesClause_17 : decode cX8_takesClause 17 = .ok (.aload_n 0, 1) := by decide +kernel
theorem dX8_takesClause_18 : decode cX8_takesClause 18 = .ok (.getfield 68, 3) := by decide +kernel
theorem dX8_takesClause_21 : decode cX8_takesClause 21 = .ok (.iload_n 1, 1) := by decide +kernel
theorem dX8_takesClause_22 : decode cX8_takesClause 22 = .ok (.aload_n 0, 1) := by decide +kernel
theorem dX8_takesClause_23 : decode cX8_takesClause 23 = .ok (.getfield 56, 3) := by decide +kernel
theorem dX8_takesClause_26 : decode cX8_takesClause 26 = .ok (.iastore, 1) := by decide +kernel
theorem dX8_takesClause_27 : decode cX8_takesClause 27 = .ok (.aload_n 0, 1) := by decide +kernel
theorem dX8_takesClause_28 : decode cX8_takesClause 28 = .ok (.getfield 65, 3) := by decide +kernel
theorem dX8_takesClause_31 : decode cX8_takesClause 31 = .ok (.iload_n 1, 1) := by decide +kernel
theorem dX8_takesClause_32 : decode cX8_takesClause 32 = .ok (.iaload, 1) := by decide +kernel
theorem dX8_takesClause_33 : decode cX8_takesClause 33 = .ok (.iconst 2, 1) := by decide +kernel
theorem dX8_takesClause_34 : decode cX8_takesClause 34 = .ok (.if_icmp .ge 20, 3) := by decide +kernel
theorem dX8_takesClause_37 : decode cX8_takesClause 37 = .ok (.aload_n 0, 1) := by decide +kernel
theorem dX8_takesClause_38 : decode cX8_takesClause 38 = .ok (.bipush 32, 2) := by decide +kernel
theorem dX8_takesClause_40 : decode cX8_takesClause 40 = .ok (.invokevirtual 242, 3) := by decide +kernel
theorem dX8_takesClause_43 : decode cX8_takesClause 43 = .ok (.ifCond .eq 15, 3) := by decide +kernel
theorem dX8_takesClause_46 : decode cX8_takesClause 46 = .ok (.aload_n 0, 1) := by decide +kernel
theorem dX8_takesClause_47 : decode cX8_takesClause 47 = .ok (.iload_n 1, 1) := by decide +kernel
theorem dX8_takesClause_48 : decode cX8_takesClause 48 = .ok (.invokevirtual 276, 3) := by decide +kernel
theorem dX8_takesClause_51 : decode cX8_takesClause 51 = .ok (.ifCond .eq 7, 3) := by decide +kernel
theorem dX8_takesClause_54 : decode cX8_takesClause 54 = .ok (.iconst 1, 1) := by decide +kernel
theorem dX8_takesClause_55 : decode cX8_takesClause 55 = .ok (.goto 4, 3) := by decide +kernel
theorem dX8_takesClause_58 : decode cX8_takesClause 58 = .ok (.iconst 0, 1) := by decide +kernel
theorem dX8_takesClause_59 : decode cX8_takesClause 59 = .ok (.ireturn, 1) := by decide +kernel
theorem dX8_goesText_0 : decode cX8_goesText 0 = .ok (.aload_n 0, 1) := by decide +kernel
theorem dX8_goesText_1 : decode cX8_goesText 1 = .ok (.iconst 0, 1) := by decide +kernel
theorem dX8_goesText_2 : decode cX8_goesText 2 = .ok (.putfield 53, 3) := by decide +kernel
theorem dX8_goesText_5 : decode cX8_goesText 5 = .ok (.aload_n 0, 1) := by decide +kernel
theorem dX8_goesText_6 : decode cX8_goesText 6 = .ok (.bipush 100, 2) := by decide +kernel
theorem dX8_goesText_8 : decode cX8_goesText 8 = .ok (.iload_n 1, 1) := by decide +kernel
theorem dX8_goesText_9 : decode cX8_goesText 9 = .ok (.imul, 1) := by decide +kernel
theorem dX8_goesText_10 : decode cX8_goesText 10 = .ok (.putfield 83, 3) := by decide +kernel
theorem dX8_goesText_13 : decode cX8_goesText 13 = .ok (.iconst 0, 1) := by decide +kernel
theorem dX8_goesText_14 : decode cX8_goesText 14 = .ok (.istore_n 2, 1) := by decide +kernel
theorem dX8_goesText_15 : decode cX8_goesText 15 = .ok (.aload_n 0, 1) := by decide +kernel
theorem dX8_goesText_16 : decode cX8_goesText 16 = .ok (.bipush 10, 2) := by decide +kernel
theorem dX8_goesText_18 : decode cX8_goesText 18 = .ok (.iload_n 1, 1) := by decide +kernel
theorem dX8_goesText_19 : decode cX8_goesText 19 = .ok (.imul, 1) := by decide +kernel
theorem dX8_goesText_20 : decode cX8_goesText 20 = .ok (.iload_n 2, 1) := by decide +kernel
theorem dX8_goesText_21 : decode cX8_goesText 21 = .ok (.iadd, 1) := by decide +kernel
theorem dX8_goesText_22 : decode cX8_goesText 22 = .ok (.invokevirtual 279, 3) := by decide +kernel
theorem dX8_goesText_25 : decode cX8_goesText 25 = .ok (.ifCond .ne 5, 3) := by decide +kernel
theorem dX8_goesText_28 : decode cX8_goesText 28 = .ok (.iconst 0, 1) := by decide +kernel
theorem dX8_goesText_29 : decode cX8_goesText 29 = .ok (.ireturn, 1) := by decide +kernel
theorem dX8_goesText_30 : decode cX8_goesText 30 = .ok (.iinc 2 1, 3) := by decide +kernel
theorem dX8_goesText_33 : decode cX8_goesText 33 = .ok (.aload_n 0, 1) := by decide +kernel
theorem dX8_goesText_34 : decode cX8_goesText 34 = .ok (.getfield 62, 3) := by decide +kernel
theorem dX8_goesText_37 : decode cX8_goesText 37 = .ok (.iload_n 1, 1) := by decide +kernel
theorem dX8_goesText_38 : decode cX8_goesText 38 = .ok (.iload_n 2, 1) := by decide +kernel
theorem dX8_goesText_39 : decode cX8_goesText 39 = .ok (.iastore, 1) := by decide +kernel
theorem dX8_goesText_40 : decode cX8_goesText 40 = .ok (.aload_n 0, 1) := by decide +kernel
theorem dX8_goesText_41 : decode cX8_goesText 41 = .ok (.getfield 53, 3) := by decide +kernel
theorem dX8_goesText_44 : decode cX8_goesText 44 = .ok (.aload_n 0, 1) := by decide +kernel
theorem dX8_goesText_45 : decode cX8_goesText 45 = .ok (.getfield 50, 3) := by decide +kernel
theorem dX8_goesText_48 : decode cX8_goesText 48 = .ok (.if_icmp .ne 5, 3) := by decide +kernel
theorem dX8_goesText_51 : decode cX8_goesText 51 = .ok (.iconst 1, 1) := by decide +kernel
theorem dX8_goesText_52 : decode cX8_goesText 52 = .ok (.ireturn, 1) := by decide +kernel
theorem dX8_goesText_53 : decode cX8_goesText 53 = .ok (.iload_n 2, 1) := by decide +kernel
theorem dX8_goesText_54 : decode cX8_goesText 54 = .ok (.bipush 10, 2) := by decide +kernel
theorem dX8_goesText_56 : decode cX8_goesText 56 = .ok (.if_icmp .eq 12, 3) := by decide +kernel
theorem dX8_goesText_59 : decode cX8_goesText 59 = .ok (.aload_n 0, 1) := by decide +kernel
theorem dX8_goesText_60 : decode cX8_goesText 60 = .ok (.bipush 59, 2) := by decide +kernel
theorem dX8_goesText_62 : decode cX8_goesText 62 = .ok (.invokevirtual 242, 3) := by decide +kernel
theorem dX8_goesText_65 : decode cX8_goesText 65 = .ok (.ifCond .ne (-50), 3) := by decide +kernel
theorem dX8_goesText_68 : decode cX8_goesText 68 = .ok (.iconst 0, 1) := by decide +kernel
theorem dX8_goesText_69 : decode cX8_goesText 69 = .ok (.ireturn, 1) := by decide +kernel
theorem dX8_air_0 : decode cX8_air 0 = .ok (.aload_n 0, 1) := by decide +kernel
theorem dX8_air_1 : decode cX8_air 1 = .ok (.getfield 44, 3) := by decide +kernel
theorem dX8_air_4 : decode cX8_air 4 = .ok (.bipush 6, 2) := by decide +kernel
theorem dX8_air_6 : decode cX8_air 6 = .ok (.if_icmp .ne 6, 3) := by decide +kernel
theorem dX8_air_9 : decode cX8_air 9 = .ok (.bipush (-4), 2) := by decide +kernel
theorem dX8_air_11 : decode cX8_air 11 = .ok (.ireturn, 1) := by decide +kernel
theorem dX8_air_12 : decode cX8_air 12 = .ok (.aload_n 0, 1) := by decide +kernel
theorem dX8_air_13 : decode cX8_air 13 = .ok (.aload_n 0, 1) := by decide +kernel
theorem dX8_air_14 : decode cX8_air 14 = .ok (.getfield 44, 3) := by decide +kernel
theorem dX8_air_17 : decode cX8_air 17 = .ok (.invokevirtual 282, 3) := by decide +kernel
theorem dX8_air_20 : decode cX8_air 20 = .ok (.istore_n 1, 1) := by decide +kernel
theorem dX8_air_21 : decode cX8_air 21 = .ok (.aload_n 0, 1) := by decide +kernel
theorem dX8_air_22 : decode cX8_air 22 = .ok (.iconst 0, 1) := by decide +kernel
theorem dX8_air_23 : decode cX8_air 23 = .ok (.putfield 50, 3) := by decide +kernel
theorem dX8_air_26 : decode cX8_air 26 = .ok (.iload_n 1, 1) := by decide +kernel
theorem dX8_air_27 : decode cX8_air 27 = .ok (.ifCond .ne 11, 3) := by decide +kernel
theorem dX8_air_30 : decode cX8_air 30 = .ok (.bipush (-10), 2) := by decide +kernel
theorem dX8_air_32 : decode cX8_air 32 = .ok (.aload_n 0, 1) := by decide +kernel
theorem dX8_air_33 : decode cX8_air 33 = .ok (.getfield 53, 3) := by decide +kernel
theorem dX8_air_36 : decode cX8_air 36 = .ok (.isub, 1) := by decide +kernel
theorem dX8_air_37 : decode cX8_air 37 = .ok (.ireturn, 1) := by decide +kernel
theorem dX8_air_38 : decode cX8_air 38 = .ok (.aload_n 0, 1) := by decide +kernel
theorem dX8_air_39 : decode cX8_air 39 = .ok (.aload_n 0, 1) := by decide +kernel
theorem dX8_air_40 : decode cX8_air 40 = .ok (.getfield 44, 3) := by decide +kernel
theorem dX8_air_43 : decode cX8_air 43 = .ok (.putfield 47, 3) := by decide +kernel
theorem dX8_air_46 : decode cX8_air 46 = .ok (.aload_n 0, 1) := by decide +kernel
theorem dX8_air_47 : decode cX8_air 47 = .ok (.dup, 1) := by decide +kernel
theorem dX8_air_48 : decode cX8_air 48 = .ok (.getfield 44, 3) := by decide +kernel
theorem dX8_air_51 : decode cX8_air 51 = .ok (.iconst 1, 1) := by decide +kernel
theorem dX8_air_52 : decode cX8_air 52 = .ok (.iadd, 1) := by decide +kernel
theorem dX8_air_53 : decode cX8_air 53 = .ok (.putfield 44, 3) := by decide +kernel
theorem dX8_air_56 : decode cX8_air 56 = .ok (.aload_n 0, 1) := by decide +kernel
theorem dX8_air_57 : decode cX8_air 57 = .ok (.getfield 47, 3) := by decide +kernel
theorem dX8_air_60 : decode cX8_air 60 = .ok (.ireturn, 1) := by decide +kernel
theorem dX8_begin_0 : decode cX8_begin 0 = .ok (.aload_n 0, 1) := by decide +kernel
theorem dX8_begin_1 : decode cX8_begin 1 = .ok (.getfield 47, 3) := by decide +kernel
theorem dX8_begin_4 : decode cX8_begin 4 = .ok (.ifCond .ge 7, 3) := by decide +kernel
theorem dX8_begin_7 : decode cX8_begin 7 = .ok (.iconst 0, 1) := by decide +kernel
theorem dX8_begin_8 : decode cX8_begin 8 = .ok (.goto 10, 3) := by decide +kernel
theorem dX8_begin_11 : decode cX8_begin 11 = .ok (.bipush 10, 2) := by decide +kernel
theorem dX8_begin_13 : decode cX8_begin 13 = .ok (.aload_n 0, 1) := by decide +kernel
theorem dX8_begin_14 : decode cX8_begin 14 = .ok (.getfield 47, 3) := by decide +kernel
theorem dX8_begin_17 : decode cX8_begin 17 = .ok (.imul, 1) := by decide +kernel
theorem dX8_begin_18 : decode cX8_begin 18 = .ok (.ireturn, 1) := by decide +kernel
theorem dX8_behind_0 : decode cX8_behind 0 = .ok (.aload_n 0, 1) := by decide +kernel
theorem dX8_behind_1 : decode cX8_behind 1 = .ok (.getfield 47, 3) := by decide +kernel
theorem dX8_behind_4 : decode cX8_behind 4 = .ok (.ifCond .ge 7, 3) := by decide +kernel
theorem dX8_behind_7 : decode cX8_behind 7 = .ok (.iconst 0, 1) := by decide +kernel
theorem dX8_behind_8 : decode cX8_behind 8 = .ok (.goto 20, 3) := by decide +kernel
theorem dX8_behind_11 : decode cX8_behind 11 = .ok (.bipush 10, 2) := by decide +kernel
theorem dX8_behind_13 : decode cX8_behind 13 = .ok (.aload_n 0, 1) := by decide +kernel
theorem dX8_behind_14 : decode cX8_behind 14 = .ok (.getfield 47, 3) := by decide +kernel
theorem dX8_behind_17 : decode cX8_behind 17 = .ok (.imul, 1) := by decide +kernel
theorem dX8_behind_18 : decode cX8_behind 18 = .ok (.aload_n 0, 1) := by decide +kernel
theorem dX8_behind_19 : decode cX8_behind 19 = .ok (.getfield 62, 3) := by decide +kernel
theorem dX8_behind_22 : decode cX8_behind 22 = .ok (.aload_n 0, 1) := by decide +kernel
theorem dX8_behind_23 : decode cX8_behind 23 = .ok (.getfield 47, 3) := by decide +kernel
theorem dX8_behind_26 : decode cX8_behind 26 = .ok (.iaload, 1) := by decide +kernel
theorem dX8_behind_27 : decode cX8_behind 27 = .ok (.iadd, 1) := by decide +kernel
theorem dX8_behind_28 : decode cX8_behind 28 = .ok (.ireturn, 1) := by decide +kernel
theorem dX8_lastOf_0 : decode cX8_lastOf 0 = .ok (.iload_n 2, 1) := by decide +kernel
theorem dX8_lastOf_1 : decode cX8_lastOf 1 = .ok (.istore_n 3, 1) := by decide +kernel
theorem dX8_lastOf_2 : decode cX8_lastOf 2 = .ok (.aload_n 0, 1) := by decide +kernel
theorem dX8_lastOf_3 : decode cX8_lastOf 3 = .ok (.invokevirtual 285, 3) := by decide +kernel
theorem dX8_lastOf_6 : decode cX8_lastOf 6 = .ok (.istore 4, 2) := by decide +kernel
theorem dX8_lastOf_8 : decode cX8_lastOf 8 = .ok (.iload 4, 2) := by decide +kernel
theorem dX8_lastOf_10 : decode cX8_lastOf 10 = .ok (.aload_n 0, 1) := by decide +kernel
theorem dX8_lastOf_11 : decode cX8_lastOf 11 = .ok (.invokevirtual 288, 3) := by decide +kernel
theorem dX8_lastOf_14 : decode cX8_lastOf 14 = .ok (.if_icmp .ge 32, 3) := by decide +kernel
theorem dX8_lastOf_17 : decode cX8_lastOf 17 = .ok (.aload_n 0, 1) := by decide +kernel
theorem dX8_lastOf_18 : decode cX8_lastOf 18 = .ok (.getfield 65, 3) := by decide +kernel
theorem dX8_lastOf_21 : decode cX8_lastOf 21 = .ok (.iload 4, 2) := by decide +kernel
theorem dX8_lastOf_23 : decode cX8_lastOf 23 = .ok (.iaload, 1) := by decide +kernel
theorem dX8_lastOf_24 : decode cX8_lastOf 24 = .ok (.iload_n 1, 1) := by decide +kernel
theorem dX8_lastOf_25 : decode cX8_lastOf 25 = .ok (.if_icmp .ne 13, 3) := by decide +kernel
theorem dX8_lastOf_28 : decode cX8_lastOf 28 = .ok (.aload_n 0, 1) := by decide +kernel
theorem dX8_lastOf_29 : decode cX8_lastOf 29 = .ok (.getfield 68, 3) := by decide +kernel
theorem dX8_lastOf_32 : decode cX8_lastOf 32 = .ok (.iload 4, 2) := by decide +kernel
theorem dX8_lastOf_34 : decode cX8_lastOf 34 = .ok (.iaload, 1) := by decide +kernel
theorem dX8_lastOf_35 : decode cX8_lastOf 35 = .ok (.goto 4, 3) := by decide +kernel
theorem dX8_lastOf_38 : decode cX8_lastOf 38 = .ok (.iload_n 3, 1) := by decide +kernel
theorem dX8_lastOf_39 : decode cX8_lastOf 39 = .ok (.istore_n 3, 1) := by decide +kernel
theorem dX8_lastOf_40 : decode cX8_lastOf 40 = .ok (.iinc 4 1, 3) := by decide +kernel
theorem dX8_lastOf_43 : decode cX8_lastOf 43 = .ok (.goto (-35), 3) := by decide +kernel
theorem dX8_lastOf_46 : decode cX8_lastOf 46 = .ok (.iload_n 3, 1) := by decide +kernel
theorem dX8_lastOf_47 : decode cX8_lastOf 47 = .ok (.ireturn, 1) := by decide +kernel
theorem dX8_base_0 : decode cX8_base 0 = .ok (.bipush 10, 2) := by decide +kernel
theorem dX8_base_2 : decode cX8_base 2 = .ok (.aload_n 0, 1) := by decide +kernel
theorem dX8_base_3 : decode cX8_base 3 = .ok (.iconst 2, 1) := by decide +kernel
theorem dX8_base_4 : decode cX8_base 4 = .ok (.bipush 40, 2) := by decide +kernel
theorem dX8_base_6 : decode cX8_base 6 = .ok (.invokevirtual 291, 3) := by decide +kernel
theorem dX8_base_9 : decode cX8_base 9 = .ok (.imul, 1) := by decide +kernel
theorem dX8_base_10 : decode cX8_base 10 = .ok (.istore_n 1, 1) := by decide +kernel
theorem dX8_base_11 : decode cX8_base 11 = .ok (.iload_n 1, 1) := by decide +kernel
theorem dX8_base_12 : decode cX8_base 12 = .ok (.sipush 400, 3) := by decide +kernel
theorem dX8_base_15 : decode cX8_base 15 = .ok (.if_icmp .le 9, 3) := by decide +kernel
theorem dX8_base_18 : decode cX8_base 18 = .ok (.sipush 400, 3) := by decide +kernel
theorem dX8_base_21 : decode cX8_base 21 = .ok (.goto 4, 3) := by decide +kernel
theorem dX8_base_24 : decode cX8_base 24 = .ok (.iload_n 1, 1) := by decide +kernel
theorem dX8_base_25 : decode cX8_base 25 = .ok (.ireturn, 1) := by decide +kernel
theorem dX8_safe_0 : decode cX8_safe 0 = .ok (.bipush 10, 2) := by decide +kernel
theorem dX8_safe_2 : decode cX8_safe 2 = .ok (.aload_n 0, 1) := by decide +kernel
theorem dX8_safe_3 : decode cX8_safe 3 = .ok (.iconst 3, 1) := by decide +kernel
theorem dX8_safe_4 : decode cX8_safe 4 = .ok (.bipush 8, 2) := by decide +kernel
theorem dX8_safe_6 : decode cX8_safe 6 = .ok (.invokevirtual 291, 3) := by decide +kernel
theorem dX8_safe_9 : decode cX8_safe 9 = .ok (.imul, 1) := by decide +kernel
theorem dX8_safe_10 : decode cX8_safe 10 = .ok (.ireturn, 1) := by decide +kernel
theorem dX8_factOf_0 : decode cX8_factOf 0 = .ok (.iload_n 1, 1) := by decide +kernel
theorem dX8_factOf_1 : decode cX8_factOf 1 = .ok (.tableswitch 84 0 4 #[35, 37, 44, 52, 77], 35) := by decide +kernel
theorem dX8_factOf_36 : decode cX8_factOf 36 = .ok (.iload_n 2, 1) := by decide +kernel
theorem dX8_factOf_37 : decode cX8_factOf 37 = .ok (.ireturn, 1) := by decide +kernel
theorem dX8_factOf_38 : decode cX8_factOf 38 = .ok (.aload_n 0, 1) := by decide +kernel
theorem dX8_factOf_39 : decode cX8_factOf 39 = .ok (.getfield 28, 3) := by decide +kernel
theorem dX8_factOf_42 : decode cX8_factOf 42 = .ok (.iload_n 2, 1) := by decide +kernel
theorem dX8_factOf_43 : decode cX8_factOf 43 = .ok (.iaload, 1) := by decide +kernel
theorem dX8_factOf_44 : decode cX8_factOf 44 = .ok (.ireturn, 1) := by decide +kernel
theorem dX8_factOf_45 : decode cX8_factOf 45 = .ok (.aload_n 0, 1) := by decide +kernel
theorem dX8_factOf_46 : decode cX8_factOf 46 = .ok (.getfield 19, 3) := by decide +kernel
theorem dX8_factOf_49 : decode cX8_factOf 49 = .ok (.bipush 50, 2) := by decide +kernel
theorem dX8_factOf_51 : decode cX8_factOf 51 = .ok (.idiv, 1) := by decide +kernel
theorem dX8_factOf_52 : decode cX8_factOf 52 = .ok (.ireturn, 1) := by decide +kernel
theorem dX8_factOf_53 : decode cX8_factOf 53 = .ok (.aload_n 0, 1) := by decide +kernel
theorem dX8_factOf_54 : decode cX8_factOf 54 = .ok (.getfield 13, 3) := by decide +kernel
theorem dX8_factOf_57 : decode cX8_factOf 57 = .ok (.bipush 10, 2) := by decide +kernel
theorem dX8_factOf_59 : decode cX8_factOf 59 = .ok (.idiv, 1) := by decide +kernel
theorem dX8_factOf_60 : decode cX8_factOf 60 = .ok (.bipush 99, 2) := by decide +kernel
theorem dX8_factOf_62 : decode cX8_factOf 62 = .ok (.if_icmp .le 8, 3) := by decide +kernel
theorem dX8_factOf_65 : decode cX8_factOf 65 = .ok (.bipush 99, 2) := by decide +kernel
theorem dX8_factOf_67 : decode cX8_factOf 67 = .ok (.goto 10, 3) := by decide +kernel
theorem dX8_factOf_70 : decode cX8_factOf 70 = .ok (.aload_n 0, 1) := by decide +kernel
theorem dX8_factOf_71 : decode cX8_factOf 71 = .ok (.getfield 13, 3) := by decide +kernel
theorem dX8_factOf_74 : decode cX8_factOf 74 = .ok (.bipush 10, 2) := by decide +kernel
theorem dX8_factOf_76 : decode cX8_factOf 76 = .ok (.idiv, 1) := by decide +kernel
theorem dX8_factOf_77 : decode cX8_factOf 77 = .ok (.ireturn, 1) := by decide +kernel
theorem dX8_factOf_78 : decode cX8_factOf 78 = .ok (.aload_n 0, 1) := by decide +kernel
theorem dX8_factOf_79 : decode cX8_factOf 79 = .ok (.getfield 32, 3) := by decide +kernel
theorem dX8_factOf_82 : decode cX8_factOf 82 = .ok (.iload_n 2, 1) := by decide +kernel
theorem dX8_factOf_83 : decode cX8_factOf 83 = .ok (.iaload, 1) := by decide +kernel
theorem dX8_factOf_84 : decode cX8_factOf 84 = .ok (.ireturn, 1) := by decide +kernel
theorem dX8_factOf_85 : decode cX8_factOf 85 = .ok (.aload_n 0, 1) := by decide +kernel
theorem dX8_factOf_86 : decode cX8_factOf 86 = .ok (.getfield 35, 3) := by decide +kernel
theorem dX8_factOf_89 : decode cX8_factOf 89 = .ok (.iload_n 2, 1) := by decide +kernel
theorem dX8_factOf_90 : decode cX8_factOf 90 = .ok (.iaload, 1) := by decide +kernel
theorem dX8_factOf_91 : decode cX8_factOf 91 = .ok (.bipush 10, 2) := by decide +kernel
theorem dX8_factOf_93 : decode cX8_factOf 93 = .ok (.idiv, 1) := by decide +kernel
theorem dX8_factOf_94 : decode cX8_factOf 94 = .ok (.ireturn, 1) := by decide +kernel
theorem dX8_holds_0 : decode cX8_holds 0 = .ok (.iconst 0, 1) := by decide +kernel
theorem dX8_holds_1 : decode cX8_holds 1 = .ok (.istore_n 3, 1) := by decide +kernel
theorem dX8_holds_2 : decode cX8_holds 2 = .ok (.aload_n 0, 1) := by decide +kernel
theorem dX8_holds_3 : decode cX8_holds 3 = .ok (.getfield 71, 3) := by decide +kernel
theorem dX8_holds_6 : decode cX8_holds 6 = .ok (.iload_n 1, 1) := by decide +kernel
theorem dX8_holds_7 : decode cX8_holds 7 = .ok (.iaload, 1) := by decide +kernel
theorem dX8_holds_8 : decode cX8_holds 8 = .ok (.istore 4, 2) := by decide +kernel
theorem dX8_holds_10 : decode cX8_holds 10 = .ok (.iload 4, 2) := by decide +kernel
theorem dX8_holds_12 : decode cX8_holds 12 = .ok (.aload_n 0, 1) := by decide +kernel
theorem dX8_holds_13 : decode cX8_holds 13 = .ok (.getfield 74, 3) := by decide +kernel
theorem dX8_holds_16 : decode cX8_holds 16 = .ok (.iload_n 1, 1) := by decide +kernel
theorem dX8_holds_17 : decode cX8_holds 17 = .ok (.iaload, 1) := by decide +kernel
theorem dX8_holds_18 : decode cX8_holds 18 = .ok (.if_icmp .ge 225, 3) := by decide +kernel
theorem dX8_holds_21 : decode cX8_holds 21 = .ok (.aload_n 0, 1) := by decide +kernel
theorem dX8_holds_22 : decode cX8_holds 22 = .ok (.getfield 77, 3) := by decide +kernel
theorem dX8_holds_25 : decode cX8_holds 25 = .ok (.iload 4, 2) := by decide +kernel
theorem dX8_holds_27 : decode cX8_holds 27 = .ok (.iaload, 1) := by decide +kernel
theorem dX8_holds_28 : decode cX8_holds 28 = .ok (.istore 5, 2) := by decide +kernel
theorem dX8_holds_30 : decode cX8_holds 30 = .ok (.iload 5, 2) := by decide +kernel
theorem dX8_holds_32 : decode cX8_holds 32 = .ok (.bipush (-33), 2) := by decide +kernel
theorem dX8_holds_34 : decode cX8_holds 34 = .ok (.if_icmp .ne 30, 3) := by decide +kernel
theorem dX8_holds_37 : decode cX8_holds 37 = .ok (.aload_n 0, 1) := by decide +kernel
theorem dX8_holds_38 : decode cX8_holds 38 = .ok (.getfield 95, 3) := by decide +kernel
theorem dX8_holds_41 : decode cX8_holds 41 = .ok (.iload_n 3, 1) := by decide +kernel
theorem dX8_holds_42 : decode cX8_holds 42 = .ok (.iconst 1, 1) := by decide +kernel
theorem dX8_holds_43 : decode cX8_holds 43 = .ok (.isub, 1) := by decide +kernel
theorem dX8_holds_44 : decode cX8_holds 44 = .ok (.aload_n 0, 1) := by decide +kernel
theorem dX8_holds_45 : decode cX8_holds 45 = .ok (.getfield 95, 3) := by decide +kernel
theorem dX8_holds_48 : decode cX8_holds 48 = .ok (.iload_n 3, 1) := by decide +kernel
theorem dX8_holds_49 : decode cX8_holds 49 = .ok (.iconst 1, 1) := by decide +kernel
theorem dX8_holds_50 : decode cX8_holds 50 = .ok (.isub, 1) := by decide +kernel
theorem dX8_holds_51 : decode cX8_holds 51 = .ok (.baload, 1) := by decide +kernel
theorem dX8_holds_52 : decode cX8_holds 52 = .ok (.ifCond .ne 7, 3) := by decide +kernel
theorem dX8_holds_55 : decode cX8_holds 55 = .ok (.iconst 1, 1) := by decide +kernel
theorem dX8_holds_56 : decode cX8_holds 56 = .ok (.goto 4, 3) := by decide +kernel
theorem dX8_holds_59 : decode cX8_holds 59 = .ok (.iconst 0, 1) := by decide +kernel
theorem dX8_holds_60 : decode cX8_holds 60 = .ok (.bastore, 1) := by decide +kernel
theorem dX8_holds_61 : decode cX8_holds 61 = .ok (.goto 176, 3) := by decide +kernel
theorem dX8_holds_64 : decode cX8_holds 64 = .ok (.iload 5, 2) := by decide +kernel
theorem dX8_holds_66 : decode cX8_holds 66 = .ok (.ifCond .ge 77, 3) := by decide +kernel
theorem dX8_holds_69 : decode cX8_holds 69 = .ok (.iinc 3 (-1), 3) := by decide +kernel
theorem dX8_holds_72 : decode cX8_holds 72 = .ok (.aload_n 0, 1) := by decide +kernel
theorem dX8_holds_73 : decode cX8_holds 73 = .ok (.getfield 95, 3) := by decide +kernel
theorem dX8_holds_76 : decode cX8_holds 76 = .ok (.iload_n 3, 1) := by decide +kernel
theorem dX8_holds_77 : decode cX8_holds 77 = .ok (.iconst 1, 1) := by decide +kernel
theorem dX8_holds_78 : decode cX8_holds 78 = .ok (.isub, 1) := by decide +kernel
theorem dX8_holds_79 : decode cX8_holds 79 = .ok (.iload 5, 2) := by decide +kernel
theorem dX8_holds_81 : decode cX8_holds 81 = .ok (.bipush (-38), 2) := by decide +kernel
theorem dX8_holds_83 : decode cX8_holds 83 = .ok (.if_icmp .ne 31, 3) := by decide +kernel
theorem dX8_holds_86 : decode cX8_holds 86 = .ok (.aload_n 0, 1) := by decide +kernel
theorem dX8_holds_87 : decode cX8_holds 87 = .ok (.getfield 95, 3) := by decide +kernel
theorem dX8_holds_90 : decode cX8_holds 90 = .ok (.iload_n 3, 1) := by decide +kernel
theorem dX8_holds_91 : decode cX8_holds 91 = .ok (.iconst 1, 1) := by decide +kernel
theorem dX8_holds_92 : decode cX8_holds 92 = .ok (.isub, 1) := by decide +kernel
theorem dX8_holds_93 : decode cX8_holds 93 = .ok (.baload, 1) := by decide +kernel
theorem dX8_holds_94 : decode cX8_holds 94 = .ok (.ifCond .eq 16, 3) := by decide +kernel
theorem dX8_holds_97 : decode cX8_holds 97 = .ok (.aload_n 0, 1) := by decide +kernel
theorem dX8_holds_98 : decode cX8_holds 98 = .ok (.getfield 95, 3) := by decide +kernel
theorem dX8_holds_101 : decode cX8_holds 101 = .ok (.iload_n 3, 1) := by decide +kernel
theorem dX8_holds_102 : decode cX8_holds 102 = .ok (.baload, 1) := by decide +kernel
theorem dX8_holds_103 : decode cX8_holds 103 = .ok (.ifCond .eq 7, 3) := by decide +kernel
theorem dX8_holds_106 : decode cX8_holds 106 = .ok (.iconst 1, 1) := by decide +kernel
theorem dX8_holds_107 : decode cX8_holds 107 = .ok (.goto 32, 3) := by decide +kernel
theorem dX8_holds_110 : decode cX8_holds 110 = .ok (.iconst 0, 1) := by decide +kernel
theorem dX8_holds_111 : decode cX8_holds 111 = .ok (.goto 28, 3) := by decide +kernel
theorem dX8_holds_114 : decode cX8_holds 114 = .ok (.aload_n 0, 1) := by decide +kernel
theorem dX8_holds_115 : decode cX8_holds 115 = .ok (.getfield 95, 3) := by decide +kernel
theorem dX8_holds_118 : decode cX8_holds 118 = .ok (.iload_n 3, 1) := by decide +kernel
theorem dX8_holds_119 : decode cX8_holds 119 = .ok (.iconst 1, 1) := by decide +kernel
theorem dX8_holds_120 : decode cX8_holds 120 = .ok (.isub, 1) := by decide +kernel
theorem dX8_holds_121 : decode cX8_holds 121 = .ok (.baload, 1) := by decide +kernel
theorem dX8_holds_122 : decode cX8_holds 122 = .ok (.ifCond .ne 12, 3) := by decide +kernel
theorem dX8_holds_125 : decode cX8_holds 125 = .ok (.aload_n 0, 1) := by decide +kernel
theorem dX8_holds_126 : decode cX8_holds 126 = .ok (.getfield 95, 3) := by decide +kernel
theorem dX8_holds_129 : decode cX8_holds 129 = .ok (.iload_n 3, 1) := by decide +kernel
theorem dX8_holds_130 : decode cX8_holds 130 = .ok (.baload, 1) := by decide +kernel
theorem dX8_holds_131 : decode cX8_holds 131 = .ok (.ifCond .eq 7, 3) := by decide +kernel
theorem dX8_holds_134 : decode cX8_holds 134 = .ok (.iconst 1, 1) := by decide +kernel
theorem dX8_holds_135 : decode cX8_holds 135 = .ok (.goto 4, 3) := by decide +kernel
theorem dX8_holds_138 : decode cX8_holds 138 = .ok (.iconst 0, 1) := by decide +kernel
theorem dX8_holds_139 : decode cX8_holds 139 = .ok (.bastore, 1) := by decide +kernel
theorem dX8_holds_140 : decode cX8_holds 140 = .ok (.goto 97, 3) := by decide +kernel
theorem dX8_holds_143 : decode cX8_holds 143 = .ok (.aload_n 0, 1) := by decide +kernel
theorem dX8_holds_144 : decode cX8_holds 144 = .ok (.iload 5, 2) := by decide +kernel
theorem dX8_holds_146 : decode cX8_holds 146 = .ok (.sipush 1000, 3) := by decide +kernel
theorem dX8_holds_149 : decode cX8_holds 149 = .ok (.idiv, 1) := by decide +kernel
theorem dX8_holds_150 : decode cX8_holds 150 = .ok (.iload_n 2, 1) := by decide +kernel
theorem dX8_holds_151 : decode cX8_holds 151 = .ok (.invokevirtual 295, 3) := by decide +kernel
theorem dX8_holds_154 : decode cX8_holds 154 = .ok (.istore 6, 2) := by decide +kernel
theorem dX8_holds_156 : decode cX8_holds 156 = .ok (.iload 5, 2) := by decide +kernel
theorem dX8_holds_158 : decode cX8_holds 158 = .ok (.bipush 100, 2) := by decide +kernel
theorem dX8_holds_160 : decode cX8_holds 160 = .ok (.idiv, 1) := by decide +kernel
theorem dX8_holds_161 : decode cX8_holds 161 = .ok (.bipush 10, 2) := by decide +kernel
theorem dX8_holds_163 : decode cX8_holds 163 = .ok (.irem, 1) := by decide +kernel
theorem dX8_holds_164 : decode cX8_holds 164 = .ok (.istore 7, 2) := by decide +kernel
theorem dX8_holds_166 : decode cX8_holds 166 = .ok (.aload_n 0, 1) := by decide +kernel
theorem dX8_holds_167 : decode cX8_holds 167 = .ok (.getfield 95, 3) := by decide +kernel
theorem dX8_holds_170 : decode cX8_holds 170 = .ok (.iload_n 3, 1) := by decide +kernel
theorem dX8_holds_171 : decode cX8_holds 171 = .ok (.iload 7, 2) := by decide +kernel
theorem dX8_holds_173 : decode cX8_holds 173 = .ok (.ifCond .ne 21, 3) := by decide +kernel
theorem dX8_holds_176 : decode cX8_holds 176 = .ok (.iload 6, 2) := by decide +kernel
theorem dX8_holds_178 : decode cX8_holds 178 = .ok (.iload 5, 2) := by decide +kernel
theorem dX8_holds_180 : decode cX8_holds 180 = .ok (.bipush 100, 2) := by decide +kernel
theorem dX8_holds_182 : decode cX8_holds 182 = .ok (.irem, 1) := by decide +kernel
theorem dX8_holds_183 : decode cX8_holds 183 = .ok (.if_icmp .ge 7, 3) := by decide +kernel
theorem dX8_holds_186 : decode cX8_holds 186 = .ok (.iconst 1, 1) := by decide +kernel
theorem dX8_holds_187 : decode cX8_holds 187 = .ok (.goto 46, 3) := by decide +kernel
theorem dX8_holds_190 : decode cX8_holds 190 = .ok (.iconst 0, 1) := by decide +kernel
theorem dX8_holds_191 : decode cX8_holds 191 = .ok (.goto 42, 3) := by decide +kernel
theorem dX8_holds_194 : decode cX8_holds 194 = .ok (.iload 7, 2) := by decide +kernel
theorem dX8_holds_196 : decode cX8_holds 196 = .ok (.iconst 1, 1) := by decide +kernel
theorem dX8_holds_197 : decode cX8_holds 197 = .ok (.if_icmp .ne 21, 3) := by decide +kernel
theorem dX8_holds_200 : decode cX8_holds 200 = .ok (.iload 6, 2) := by decide +kernel
theorem dX8_holds_202 : decode cX8_holds 202 = .ok (.iload 5, 2) := by decide +kernel
theorem dX8_holds_204 : decode cX8_holds 204 = .ok (.bipush 100, 2) := by decide +kernel
theorem dX8_holds_206 : decode cX8_holds 206 = .ok (.irem, 1) := by decide +kernel
theorem dX8_holds_207 : decode cX8_holds 207 = .ok (.if_icmp .ne 7, 3) := by decide +kernel
theorem dX8_holds_210 : decode cX8_holds 210 = .ok (.iconst 1, 1) := by decide +kernel
theorem dX8_holds_211 : decode cX8_holds 211 = .ok (.goto 22, 3) := by decide +kernel
theorem dX8_holds_214 : decode cX8_holds 214 = .ok (.iconst 0, 1) := by decide +kernel
theorem dX8_holds_215 : decode cX8_holds 215 = .ok (.goto 18, 3) := by decide +kernel
theorem dX8_holds_218 : decode cX8_holds 218 = .ok (.iload 6, 2) := by decide +kernel
theorem dX8_holds_220 : decode cX8_holds 220 = .ok (.iload 5, 2) := by decide +kernel
theorem dX8_holds_222 : decode cX8_holds 222 = .ok (.bipush 100, 2) := by decide +kernel
theorem dX8_holds_224 : decode cX8_holds 224 = .ok (.irem, 1) := by decide +kernel
theorem dX8_holds_225 : decode cX8_holds 225 = .ok (.if_icmp .le 7, 3) := by decide +kernel
theorem dX8_holds_228 : decode cX8_holds 228 = .ok (.iconst 1, 1) := by decide +kernel
theorem dX8_holds_229 : decode cX8_holds 229 = .ok (.goto 4, 3) := by decide +kernel
theorem dX8_holds_232 : decode cX8_holds 232 = .ok (.iconst 0, 1) := by decide +kernel
theorem dX8_holds_233 : decode cX8_holds 233 = .ok (.bastore, 1) := by decide +kernel
theorem dX8_holds_234 : decode cX8_holds 234 = .ok (.iinc 3 1, 3) := by decide +kernel
theorem dX8_holds_237 : decode cX8_holds 237 = .ok (.iinc 4 1, 3) := by decide +kernel
theorem dX8_holds_240 : decode cX8_holds 240 = .ok (.goto (-230), 3) := by decide +kernel
theorem dX8_holds_243 : decode cX8_holds 243 = .ok (.aload_n 0, 1) := by decide +kernel
theorem dX8_holds_244 : decode cX8_holds 244 = .ok (.getfield 95, 3) := by decide +kernel
theorem dX8_holds_247 : decode cX8_holds 247 = .ok (.iconst 0, 1) := by decide +kernel
theorem dX8_holds_248 : decode cX8_holds 248 = .ok (.baload, 1) := by decide +kernel
theorem dX8_holds_249 : decode cX8_holds 249 = .ok (.ireturn, 1) := by decide +kernel
theorem dX8_gain_0 : decode cX8_gain 0 = .ok (.aload_n 0, 1) := by decide +kernel
theorem dX8_gain_1 : decode cX8_gain 1 = .ok (.getfield 38, 3) := by decide +kernel
theorem dX8_gain_4 : decode cX8_gain 4 = .ok (.iload_n 1, 1) := by decide +kernel
theorem dX8_gain_5 : decode cX8_gain 5 = .ok (.iaload, 1) := by decide +kernel
theorem dX8_gain_6 : decode cX8_gain 6 = .ok (.istore_n 2, 1) := by decide +kernel
theorem dX8_gain_7 : decode cX8_gain 7 = .ok (.aload_n 0, 1) := by decide +kernel
theorem dX8_gain_8 : decode cX8_gain 8 = .ok (.invokevirtual 285, 3) := by decide +kernel
theorem dX8_gain_11 : decode cX8_gain 11 = .ok (.istore_n 3, 1) := by decide +kernel
theorem dX8_gain_12 : decode cX8_gain 12 = .ok (.iload_n 3, 1) := by decide +kernel
theorem dX8_gain_13 : decode cX8_gain 13 = .ok (.aload_n 0, 1) := by decide +kernel
theorem dX8_gain_14 : decode cX8_gain 14 = .ok (.invokevirtual 288, 3) := by decide +kernel
theorem dX8_gain_17 : decode cX8_gain 17 = .ok (.if_icmp .ge 59, 3) := by decide +kernel
theorem dX8_gain_20 : decode cX8_gain 20 = .ok (.aload_n 0, 1) := by decide +kernel
theorem dX8_gain_21 : decode cX8_gain 21 = .ok (.getfield 65, 3) := by decide +kernel
theorem dX8_gain_24 : decode cX8_gain 24 = .ok (.iload_n 3, 1) := by decide +kernel
theorem dX8_gain_25 : decode cX8_gain 25 = .ok (.iaload, 1) := by decide +kernel
theorem dX8_gain_26 : decode cX8_gain 26 = .ok (.iconst 1, 1) := by decide +kernel
theorem dX8_gain_27 : decode cX8_gain 27 = .ok (.if_icmp .gt 43, 3) := by decide +kernel
theorem dX8_gain_30 : decode cX8_gain 30 = .ok (.aload_n 0, 1) := by decide +kernel
theorem dX8_gain_31 : decode cX8_gain 31 = .ok (.iload_n 3, 1) := by decide +kernel
theorem dX8_gain_32 : decode cX8_gain 32 = .ok (.iload_n 1, 1) := by decide +kernel
theorem dX8_gain_33 : decode cX8_gain 33 = .ok (.invokevirtual 298, 3) := by decide +kernel
theorem dX8_gain_36 : decode cX8_gain 36 = .ok (.ifCond .ne 6, 3) := by decide +kernel
theorem dX8_gain_39 : decode cX8_gain 39 = .ok (.goto 31, 3) := by decide +kernel
theorem dX8_gain_42 : decode cX8_gain 42 = .ok (.iload_n 2, 1) := by decide +kernel
theorem dX8_gain_43 : decode cX8_gain 43 = .ok (.aload_n 0, 1) := by decide +kernel
theorem dX8_gain_44 : decode cX8_gain 44 = .ok (.getfield 65, 3) := by decide +kernel
theorem dX8_gain_47 : decode cX8_gain 47 = .ok (.iload_n 3, 1) := by decide +kernel
theorem dX8_gain_48 : decode cX8_gain 48 = .ok (.iaload, 1) := by decide +kernel
theorem dX8_gain_49 : decode cX8_gain 49 = .ok (.ifCond .ne 12, 3) := by decide +kernel
theorem dX8_gain_52 : decode cX8_gain 52 = .ok (.aload_n 0, 1) := by decide +kernel
theorem dX8_gain_53 : decode cX8_gain 53 = .ok (.getfield 68, 3) := by decide +kernel
theorem dX8_gain_56 : decode cX8_gain 56 = .ok (.iload_n 3, 1) := by decide +kernel
theorem dX8_gain_57 : decode cX8_gain 57 = .ok (.iaload, 1) := by decide +kernel
theorem dX8_gain_58 : decode cX8_gain 58 = .ok (.goto 10, 3) := by decide +kernel
theorem dX8_gain_61 : decode cX8_gain 61 = .ok (.aload_n 0, 1) := by decide +kernel
theorem dX8_gain_62 : decode cX8_gain 62 = .ok (.getfield 68, 3) := by decide +kernel
theorem dX8_gain_65 : decode cX8_gain 65 = .ok (.iload_n 3, 1) := by decide +kernel
theorem dX8_gain_66 : decode cX8_gain 66 = .ok (.iaload, 1) := by decide +kernel
theorem dX8_gain_67 : decode cX8_gain 67 = .ok (.ineg, 1) := by decide +kernel
theorem dX8_gain_68 : decode cX8_gain 68 = .ok (.iadd, 1) := by decide +kernel
theorem dX8_gain_69 : decode cX8_gain 69 = .ok (.istore_n 2, 1) := by decide +kernel
theorem dX8_gain_70 : decode cX8_gain 70 = .ok (.iinc 3 1, 3) := by decide +kernel
theorem dX8_gain_73 : decode cX8_gain 73 = .ok (.goto (-61), 3) := by decide +kernel
theorem dX8_gain_76 : decode cX8_gain 76 = .ok (.iload_n 2, 1) := by decide +kernel
theorem dX8_gain_77 : decode cX8_gain 77 = .ok (.ireturn, 1) := by decide +kernel
theorem dX8_climb_0 : decode cX8_climb 0 = .ok (.aload_n 0, 1) := by decide +kernel
theorem dX8_climb_1 : decode cX8_climb 1 = .ok (.iload_n 1, 1) := by decide +kernel
theorem dX8_climb_2 : decode cX8_climb 2 = .ok (.invokevirtual 301, 3) := by decide +kernel
theorem dX8_climb_5 : decode cX8_climb 5 = .ok (.istore_n 2, 1) := by decide +kernel
theorem dX8_climb_6 : decode cX8_climb 6 = .ok (.aload_n 0, 1) := by decide +kernel
theorem dX8_climb_7 : decode cX8_climb 7 = .ok (.getfield 28, 3) := by decide +kernel
theorem dX8_climb_10 : decode cX8_climb 10 = .ok (.iload_n 1, 1) := by decide +kernel
theorem dX8_climb_11 : decode cX8_climb 11 = .ok (.iaload, 1) := by decide +kernel
theorem dX8_climb_12 : decode cX8_climb 12 = .ok (.tableswitch 158 1 6 #[40, 51, 55, 71, 102, 126], 40) := by decide +kernel
theorem dX8_climb_52 : decode cX8_climb 52 = .ok (.iload_n 2, 1) := by decide +kernel
theorem dX8_climb_53 : decode cX8_climb 53 = .ok (.aload_n 0, 1) := by decide +kernel
theorem dX8_climb_54 : decode cX8_climb 54 = .ok (.getfield 32, 3) := by decide +kernel
theorem dX8_climb_57 : decode cX8_climb 57 = .ok (.iload_n 1, 1) := by decide +kernel
theorem dX8_climb_58 : decode cX8_climb 58 = .ok (.iaload, 1) := by decide +kernel
theorem dX8_climb_59 : decode cX8_climb 59 = .ok (.iconst 2, 1) := by decide +kernel
theorem dX8_climb_60 : decode cX8_climb 60 = .ok (.idiv, 1) := by decide +kernel
theorem dX8_climb_61 : decode cX8_climb 61 = .ok (.iadd, 1) := by decide +kernel
theorem dX8_climb_62 : decode cX8_climb 62 = .ok (.ireturn, 1) := by decide +kernel
theorem dX8_climb_63 : decode cX8_climb 63 = .ok (.iload_n 2, 1) := by decide +kernel
theorem dX8_climb_64 : decode cX8_climb 64 = .ok (.iconst 2, 1) := by decide +kernel
theorem dX8_climb_65 : decode cX8_climb 65 = .ok (.idiv, 1) := by decide +kernel
theorem dX8_climb_66 : decode cX8_climb 66 = .ok (.ireturn, 1) := by decide +kernel
theorem dX8_climb_67 : decode cX8_climb 67 = .ok (.aload_n 0, 1) := by decide +kernel
theorem dX8_climb_68 : decode cX8_climb 68 = .ok (.getfield 13, 3) := by decide +kernel
theorem dX8_climb_71 : decode cX8_climb 71 = .ok (.bipush 100, 2) := by decide +kernel
theorem dX8_climb_73 : decode cX8_climb 73 = .ok (.if_icmp .lt 8, 3) := by decide +kernel
theorem dX8_climb_76 : decode cX8_climb 76 = .ok (.bipush (-2), 2) := by decide +kernel
theorem dX8_climb_78 : decode cX8_climb 78 = .ok (.goto 4, 3) := by decide +kernel
theorem dX8_climb_81 : decode cX8_climb 81 = .ok (.iload_n 2, 1) := by decide +kernel
theorem dX8_climb_82 : decode cX8_climb 82 = .ok (.ireturn, 1) := by decide +kernel
theorem dX8_climb_83 : decode cX8_climb 83 = .ok (.aload_n 0, 1) := by decide +kernel
theorem dX8_climb_84 : decode cX8_climb 84 = .ok (.getfield 19, 3) := by decide +kernel
theorem dX8_climb_87 : decode cX8_climb 87 = .ok (.bipush 40, 2) := by decide +kernel
theorem dX8_climb_89 : decode cX8_climb 89 = .ok (.aload_n 0, 1) := by decide +kernel
theorem dX8_climb_90 : decode cX8_climb 90 = .ok (.getfield 32, 3) := by decide +kernel
theorem dX8_climb_93 : decode cX8_climb 93 = .ok (.iload_n 1, 1) := by decide +kernel
theorem dX8_climb_94 : decode cX8_climb 94 = .ok (.iaload, 1) := by decide +kernel
theorem dX8_climb_95 : decode cX8_climb 95 = .ok (.imul, 1) := by decide +kernel
theorem dX8_climb_96 : decode cX8_climb 96 = .ok (.if_icmp .le 7, 3) := by decide +kernel
theorem dX8_climb_99 : decode cX8_climb 99 = .ok (.iconst 0, 1) := by decide +kernel
theorem dX8_climb_100 : decode cX8_climb 100 = .ok (.goto 13, 3) := by decide +kernel
theorem dX8_climb_103 : decode cX8_climb 103 = .ok (.iload_n 2, 1) := by decide +kernel
theorem dX8_climb_104 : decode cX8_climb 104 = .ok (.aload_n 0, 1) := by decide +kernel
theorem dX8_climb_105 : decode cX8_climb 105 = .ok (.getfield 32, 3) := by decide +kernel
theorem dX8_climb_108 : decode cX8_climb 108 = .ok (.iload_n 1, 1) := by decide +kernel
theorem dX8_climb_109 : decode cX8_climb 109 = .ok (.iaload, 1) := by decide +kernel
theorem dX8_climb_110 : decode cX8_climb 110 = .ok (.iconst 2, 1) := by decide +kernel
theorem dX8_climb_111 : decode cX8_climb 111 = .ok (.idiv, 1) := by decide +kernel
theorem dX8_climb_112 : decode cX8_climb 112 = .ok (.iadd, 1) := by decide +kernel
theorem dX8_climb_113 : decode cX8_climb 113 = .ok (.ireturn, 1) := by decide +kernel
theorem dX8_climb_114 : decode cX8_climb 114 = .ok (.aload_n 0, 1) := by decide +kernel
theorem dX8_climb_115 : decode cX8_climb 115 = .ok (.getfield 13, 3) := by decide +kernel
theorem dX8_climb_118 : decode cX8_climb 118 = .ok (.aload_n 0, 1) := by decide +kernel
theorem dX8_climb_119 : decode cX8_climb 119 = .ok (.getfield 32, 3) := by decide +kernel
theorem dX8_climb_122 : decode cX8_climb 122 = .ok (.iload_n 1, 1) := by decide +kernel
theorem dX8_climb_123 : decode cX8_climb 123 = .ok (.iaload, 1) := by decide +kernel
theorem dX8_climb_124 : decode cX8_climb 124 = .ok (.iconst 2, 1) := by decide +kernel
theorem dX8_climb_125 : decode cX8_climb 125 = .ok (.iadd, 1) := by decide +kernel
theorem dX8_climb_126 : decode cX8_climb 126 = .ok (.irem, 1) := by decide +kernel
theorem dX8_climb_127 : decode cX8_climb 127 = .ok (.ifCond .ne 7, 3) := by decide +kernel
theorem dX8_climb_130 : decode cX8_climb 130 = .ok (.iconst (-1), 1) := by decide +kernel
theorem dX8_climb_131 : decode cX8_climb 131 = .ok (.goto 6, 3) := by decide +kernel
theorem dX8_climb_134 : decode cX8_climb 134 = .ok (.iload_n 2, 1) := by decide +kernel
theorem dX8_climb_135 : decode cX8_climb 135 = .ok (.iconst 2, 1) := by decide +kernel
theorem dX8_climb_136 : decode cX8_climb 136 = .ok (.idiv, 1) := by decide +kernel
theorem dX8_climb_137 : decode cX8_climb 137 = .ok (.ireturn, 1) := by decide +kernel
theorem dX8_climb_138 : decode cX8_climb 138 = .ok (.aload_n 0, 1) := by decide +kernel
theorem dX8_climb_139 : decode cX8_climb 139 = .ok (.getfield 13, 3) := by decide +kernel
theorem dX8_climb_142 : decode cX8_climb 142 = .ok (.bipush 100, 2) := by decide +kernel
theorem dX8_climb_144 : decode cX8_climb 144 = .ok (.if_icmp .lt 8, 3) := by decide +kernel
theorem dX8_climb_147 : decode cX8_climb 147 = .ok (.bipush (-2), 2) := by decide +kernel
theorem dX8_climb_149 : decode cX8_climb 149 = .ok (.goto 4, 3) := by decide +kernel
theorem dX8_climb_152 : decode cX8_climb 152 = .ok (.iload_n 2, 1) := by decide +kernel
theorem dX8_climb_153 : decode cX8_climb 153 = .ok (.aload_n 0, 1) := by decide +kernel
theorem dX8_climb_154 : decode cX8_climb 154 = .ok (.getfield 41, 3) := by decide +kernel
theorem dX8_climb_157 : decode cX8_climb 157 = .ok (.iconst 4, 1) := by decide +kernel
theorem dX8_climb_158 : decode cX8_climb 158 = .ok (.iload_n 1, 1) := by decide +kernel
theorem dX8_climb_159 : decode cX8_climb 159 = .ok (.imul, 1) := by decide +kernel
theorem dX8_climb_160 : decode cX8_climb 160 = .ok (.aload_n 0, 1) := by decide +kernel
theorem dX8_climb_161 : decode cX8_climb 161 = .ok (.getfield 13, 3) := by decide +kernel
theorem dX8_climb_164 : decode cX8_climb 164 = .ok (.iconst 4, 1) := by decide +kernel
theorem dX8_climb_165 : decode cX8_climb 165 = .ok (.irem, 1) := by decide +kernel
theorem dX8_climb_166 : decode cX8_climb 166 = .ok (.iadd, 1) := by decide +kernel
theorem dX8_climb_167 : decode cX8_climb 167 = .ok (.iaload, 1) := by decide +kernel
theorem dX8_climb_168 : decode cX8_climb 168 = .ok (.iadd, 1) := by decide +kernel
theorem dX8_climb_169 : decode cX8_climb 169 = .ok (.ireturn, 1) := by decide +kernel
theorem dX8_climb_170 : decode cX8_climb 170 = .ok (.iload_n 2, 1) := by decide +kernel
theorem dX8_climb_171 : decode cX8_climb 171 = .ok (.ireturn, 1) := by decide +kernel
theorem dX8_of_0 : decode cX8_of 0 = .ok (.aload_n 0, 1) := by decide +kernel
theorem dX8_of_1 : decode cX8_of 1 = .ok (.iload_n 1, 1) := by decide +kernel
theorem dX8_of_2 : decode cX8_of 2 = .ok (.invokevirtual 235, 3) := by decide +kernel
theorem dX8_of_5 : decode cX8_of 5 = .ok (.ifCond .ne 7, 3) := by decide +kernel
theorem dX8_of_8 : decode cX8_of 8 = .ok (.sipush (-1001), 3) := by decide +kernel
theorem dX8_of_11 : decode cX8_of 11 = .ok (.ireturn, 1) := by decide +kernel
theorem dX8_of_12 : decode cX8_of 12 = .ok (.iload_n 2, 1) := by decide +kernel
theorem dX8_of_13 : decode cX8_of 13 = .ok (.tableswitch 79 0 5 #[39, 46, 53, 60, 67, 73], 39) := by decide +kernel
theorem dX8_of_52 : decode cX8_of 52 = .ok (.aload_n 0, 1) := by decide +kernel
theorem dX8_of_53 : decode cX8_of 53 = .ok (.getfield 28, 3) := by decide +kernel
theorem dX8_of_56 : decode cX8_of 56 = .ok (.iload_n 1, 1) := by decide +kernel
theorem dX8_of_57 : decode cX8_of 57 = .ok (.iaload, 1) := by decide +kernel
theorem dX8_of_58 : decode cX8_of 58 = .ok (.ireturn, 1) := by decide +kernel
theorem dX8_of_59 : decode cX8_of 59 = .ok (.aload_n 0, 1) := by decide +kernel
theorem dX8_of_60 : decode cX8_of 60 = .ok (.getfield 32, 3) := by decide +kernel
theorem dX8_of_63 : decode cX8_of 63 = .ok (.iload_n 1, 1) := by decide +kernel
theorem dX8_of_64 : decode cX8_of 64 = .ok (.iaload, 1) := by decide +kernel
theorem dX8_of_65 : decode cX8_of 65 = .ok (.ireturn, 1) := by decide +kernel
theorem dX8_of_66 : decode cX8_of 66 = .ok (.aload_n 0, 1) := by decide +kernel
theorem dX8_of_67 : decode cX8_of 67 = .ok (.getfield 35, 3) := by decide +kernel
theorem dX8_of_70 : decode cX8_of 70 = .ok (.iload_n 1, 1) := by decide +kernel
theorem dX8_of_71 : decode cX8_of 71 = .ok (.iaload, 1) := by decide +kernel
theorem dX8_of_72 : decode cX8_of 72 = .ok (.ireturn, 1) := by decide +kernel
theorem dX8_of_73 : decode cX8_of 73 = .ok (.aload_n 0, 1) := by decide +kernel
theorem dX8_of_74 : decode cX8_of 74 = .ok (.getfield 38, 3) := by decide +kernel
theorem dX8_of_77 : decode cX8_of 77 = .ok (.iload_n 1, 1) := by decide +kernel
theorem dX8_of_78 : decode cX8_of 78 = .ok (.iaload, 1) := by decide +kernel
theorem dX8_of_79 : decode cX8_of 79 = .ok (.ireturn, 1) := by decide +kernel
theorem dX8_of_80 : decode cX8_of 80 = .ok (.aload_n 0, 1) := by decide +kernel
theorem dX8_of_81 : decode cX8_of 81 = .ok (.iload_n 1, 1) := by decide +kernel
theorem dX8_of_82 : decode cX8_of 82 = .ok (.invokevirtual 301, 3) := by decide +kernel
theorem dX8_of_85 : decode cX8_of 85 = .ok (.ireturn, 1) := by decide +kernel
theorem dX8_of_86 : decode cX8_of 86 = .ok (.aload_n 0, 1) := by decide +kernel
theorem dX8_of_87 : decode cX8_of 87 = .ok (.iload_n 1, 1) := by decide +kernel
theorem dX8_of_88 : decode cX8_of 88 = .ok (.invokevirtual 304, 3) := by decide +kernel
theorem dX8_of_91 : decode cX8_of 91 = .ok (.ireturn, 1) := by decide +kernel
theorem dX8_of_92 : decode cX8_of 92 = .ok (.sipush (-1001), 3) := by decide +kernel
theorem dX8_of_95 : decode cX8_of 95 = .ok (.ireturn, 1) := by decide +kernel
theorem dX8_told_0 : decode cX8_told 0 = .ok (.iload_n 1, 1) := by decide +kernel
theorem dX8_told_1 : decode cX8_told 1 = .ok (.tableswitch 90 0 6 #[43, 48, 53, 58, 75, 80, 85], 43) := by decide +kernel
theorem dX8_told_44 : decode cX8_told 44 = .ok (.aload_n 0, 1) := by decide +kernel
theorem dX8_told_45 : decode cX8_told 45 = .ok (.getfield 13, 3) := by decide +kernel
theorem dX8_told_48 : decode cX8_told 48 = .ok (.ireturn, 1) := by decide +kernel
theorem dX8_told_49 : decode cX8_told 49 = .ok (.aload_n 0, 1) := by decide +kernel
theorem dX8_told_50 : decode cX8_told 50 = .ok (.getfield 16, 3) := by decide +kernel
theorem dX8_told_53 : decode cX8_told 53 = .ok (.ireturn, 1) := by decide +kernel
theorem dX8_told_54 : decode cX8_told 54 = .ok (.aload_n 0, 1) := by decide +kernel
theorem dX8_told_55 : decode cX8_told 55 = .ok (.getfield 19, 3) := by decide +kernel
theorem dX8_told_58 : decode cX8_told 58 = .ok (.ireturn, 1) := by decide +kernel
theorem dX8_told_59 : decode cX8_told 59 = .ok (.aload_n 0, 1) := by decide +kernel
theorem dX8_told_60 : decode cX8_told 60 = .ok (.getfield 22, 3) := by decide +kernel
theorem dX8_told_63 : decode cX8_told 63 = .ok (.ifCond .ge 8, 3) := by decide +kernel
theorem dX8_told_66 : decode cX8_told 66 = .ok (.bipush (-5), 2) := by decide +kernel
theorem dX8_told_68 : decode cX8_told 68 = .ok (.goto 7, 3) := by decide +kernel
theorem dX8_told_71 : decode cX8_told 71 = .ok (.aload_n 0, 1) := by decide +kernel
theorem dX8_told_72 : decode cX8_told 72 = .ok (.getfield 22, 3) := by decide +kernel
theorem dX8_told_75 : decode cX8_told 75 = .ok (.ireturn, 1) := by decide +kernel
theorem dX8_told_76 : decode cX8_told 76 = .ok (.aload_n 0, 1) := by decide +kernel
theorem dX8_told_77 : decode cX8_told 77 = .ok (.getfield 25, 3) := by decide +kernel
theorem dX8_told_80 : decode cX8_told 80 = .ok (.ireturn, 1) := by decide +kernel
theorem dX8_told_81 : decode cX8_told 81 = .ok (.aload_n 0, 1) := by decide +kernel
theorem dX8_told_82 : decode cX8_told 82 = .ok (.invokevirtual 307, 3) := by decide +kernel
theorem dX8_told_85 : decode cX8_told 85 = .ok (.ireturn, 1) := by decide +kernel
theorem dX8_told_86 : decode cX8_told 86 = .ok (.aload_n 0, 1) := by decide +kernel
theorem dX8_told_87 : decode cX8_told 87 = .ok (.invokevirtual 310, 3) := by decide +kernel
theorem dX8_told_90 : decode cX8_told 90 = .ok (.ireturn, 1) := by decide +kernel
theorem dX8_told_91 : decode cX8_told 91 = .ok (.iconst (-1), 1) := by decide +kernel
theorem dX8_told_92 : decode cX8_told 92 = .ok (.ireturn, 1) := by decide +kernel
theorem dX8_goMinute_0 : decode cX8_goMinute 0 = .ok (.aload_n 0, 1) := by decide +kernel
theorem dX8_goMinute_1 : decode cX8_goMinute 1 = .ok (.iload_n 1, 1) := by decide +kernel
theorem dX8_goMinute_2 : decode cX8_goMinute 2 = .ok (.invokevirtual 304, 3) := by decide +kernel
theorem dX8_goMinute_5 : decode cX8_goMinute 5 = .ok (.istore_n 2, 1) := by decide +kernel
theorem dX8_goMinute_6 : decode cX8_goMinute 6 = .ok (.aload_n 0, 1) := by decide +kernel
theorem dX8_goMinute_7 : decode cX8_goMinute 7 = .ok (.invokevirtual 307, 3) := by decide +kernel
theorem dX8_goMinute_10 : decode cX8_goMinute 10 = .ok (.aload_n 0, 1) := by decide +kernel
theorem dX8_goMinute_11 : decode cX8_goMinute 11 = .ok (.getfield 19, 3) := by decide +kernel
theorem dX8_goMinute_14 : decode cX8_goMinute 14 = .ok (.if_icmp .le 10, 3) := by decide +kernel
theorem dX8_goMinute_17 : decode cX8_goMinute 17 = .ok (.aload_n 0, 1) := by decide +kernel
theorem dX8_goMinute_18 : decode cX8_goMinute 18 = .ok (.invokevirtual 307, 3) := by decide +kernel
theorem dX8_goMinute_21 : decode cX8_goMinute 21 = .ok (.goto 7, 3) := by decide +kernel
theorem dX8_goMinute_24 : decode cX8_goMinute 24 = .ok (.aload_n 0, 1) := by decide +kernel
theorem dX8_goMinute_25 : decode cX8_goMinute 25 = .ok (.getfield 19, 3) := by decide +kernel
theorem dX8_goMinute_28 : decode cX8_goMinute 28 = .ok (.istore_n 3, 1) := by decide +kernel
theorem dX8_goMinute_29 : decode cX8_goMinute 29 = .ok (.aload_n 0, 1) := by decide +kernel
theorem dX8_goMinute_30 : decode cX8_goMinute 30 = .ok (.getfield 19, 3) := by decide +kernel
theorem dX8_goMinute_33 : decode cX8_goMinute 33 = .ok (.iload_n 2, 1) := by decide +kernel
theorem dX8_goMinute_34 : decode cX8_goMinute 34 = .ok (.iadd, 1) := by decide +kernel
theorem dX8_goMinute_35 : decode cX8_goMinute 35 = .ok (.istore 4, 2) := by decide +kernel
theorem dX8_goMinute_37 : decode cX8_goMinute 37 = .ok (.aload_n 0, 1) := by decide +kernel
theorem dX8_goMinute_38 : decode cX8_goMinute 38 = .ok (.iload_n 2, 1) := by decide +kernel
theorem dX8_goMinute_39 : decode cX8_goMinute 39 = .ok (.ifCond .le 13, 3) := by decide +kernel
theorem dX8_goMinute_42 : decode cX8_goMinute 42 = .ok (.iload 4, 2) := by decide +kernel
theorem dX8_goMinute_44 : decode cX8_goMinute 44 = .ok (.iload_n 3, 1) := by decide +kernel
theorem dX8_goMinute_45 : decode cX8_goMinute 45 = .ok (.if_icmp .le 7, 3) := by decide +kernel
theorem dX8_goMinute_48 : decode cX8_goMinute 48 = .ok (.iload_n 3, 1) := by decide +kernel
theorem dX8_goMinute_49 : decode cX8_goMinute 49 = .ok (.goto 14, 3) := by decide +kernel
theorem dX8_goMinute_52 : decode cX8_goMinute 52 = .ok (.iload 4, 2) := by decide +kernel
theorem dX8_goMinute_54 : decode cX8_goMinute 54 = .ok (.ifCond .ge 7, 3) := by decide +kernel
theorem dX8_goMinute_57 : decode cX8_goMinute 57 = .ok (.iconst 0, 1) := by decide +kernel
theorem dX8_goMinute_58 : decode cX8_goMinute 58 = .ok (.goto 5, 3) := by decide +kernel
theorem dX8_goMinute_61 : decode cX8_goMinute 61 = .ok (.iload 4, 2) := by decide +kernel
theorem dX8_goMinute_63 : decode cX8_goMinute 63 = .ok (.putfield 19, 3) := by decide +kernel
theorem dX8_goMinute_66 : decode cX8_goMinute 66 = .ok (.aload_n 0, 1) := by decide +kernel
theorem dX8_goMinute_67 : decode cX8_goMinute 67 = .ok (.dup, 1) := by decide +kernel
theorem dX8_goMinute_68 : decode cX8_goMinute 68 = .ok (.getfield 13, 3) := by decide +kernel
theorem dX8_goMinute_71 : decode cX8_goMinute 71 = .ok (.iconst 1, 1) := by decide +kernel
theorem dX8_goMinute_72 : decode cX8_goMinute 72 = .ok (.iadd, 1) := by decide +kernel
theorem dX8_goMinute_73 : decode cX8_goMinute 73 = .ok (.putfield 13, 3) := by decide +kernel
theorem dX8_goMinute_76 : decode cX8_goMinute 76 = .ok (.return_, 1) := by decide +kernel
theorem dX8_falls_0 : decode cX8_falls 0 = .ok (.aload_n 0, 1) := by decide +kernel
theorem dX8_falls_1 : decode cX8_falls 1 = .ok (.iload_n 1, 1) := by decide +kernel
theorem dX8_falls_2 : decode cX8_falls 2 = .ok (.iload_n 2, 1) := by decide +kernel
theorem dX8_falls_3 : decode cX8_falls 3 = .ok (.invokevirtual 313, 3) := by decide +kernel
theorem dX8_falls_6 : decode cX8_falls 6 = .ok (.iconst 5, 1) := by decide +kernel
theorem dX8_falls_7 : decode cX8_falls 7 = .ok (.iload_n 3, 1) := by decide +kernel
theorem dX8_falls_8 : decode cX8_falls 8 = .ok (.iadd, 1) := by decide +kernel
theorem dX8_falls_9 : decode cX8_falls 9 = .ok (.imul, 1) := by decide +kernel
theorem dX8_falls_10 : decode cX8_falls 10 = .ok (.ireturn, 1) := by decide +kernel
theorem dX8_goGlide_0 : decode cX8_goGlide 0 = .ok (.aload_n 0, 1) := by decide +kernel
theorem dX8_goGlide_1 : decode cX8_goGlide 1 = .ok (.getfield 19, 3) := by decide +kernel
theorem dX8_goGlide_4 : decode cX8_goGlide 4 = .ok (.aload_n 0, 1) := by decide +kernel
theorem dX8_goGlide_5 : decode cX8_goGlide 5 = .ok (.aload_n 0, 1) := by decide +kernel
theorem dX8_goGlide_6 : decode cX8_goGlide 6 = .ok (.getfield 16, 3) := by decide +kernel
theorem dX8_goGlide_9 : decode cX8_goGlide 9 = .ok (.iload_n 1, 1) := by decide +kernel
theorem dX8_goGlide_10 : decode cX8_goGlide 10 = .ok (.iload_n 2, 1) := by decide +kernel
theorem dX8_goGlide_11 : decode cX8_goGlide 11 = .ok (.invokevirtual 316, 3) := by decide +kernel
theorem dX8_goGlide_14 : decode cX8_goGlide 14 = .ok (.if_icmp .ge 5, 3) := by decide +kernel
theorem dX8_goGlide_17 : decode cX8_goGlide 17 = .ok (.iconst 0, 1) := by decide +kernel
theorem dX8_goGlide_18 : decode cX8_goGlide 18 = .ok (.ireturn, 1) := by decide +kernel
theorem dX8_goGlide_19 : decode cX8_goGlide 19 = .ok (.aload_n 0, 1) := by decide +kernel
theorem dX8_goGlide_20 : decode cX8_goGlide 20 = .ok (.dup, 1) := by decide +kernel
theorem dX8_goGlide_21 : decode cX8_goGlide 21 = .ok (.getfield 19, 3) := by decide +kernel
theorem dX8_goGlide_24 : decode cX8_goGlide 24 = .ok (.aload_n 0, 1) := by decide +kernel
theorem dX8_goGlide_25 : decode cX8_goGlide 25 = .ok (.aload_n 0, 1) := by decide +kernel
theorem dX8_goGlide_26 : decode cX8_goGlide 26 = .ok (.getfield 16, 3) := by decide +kernel
theorem dX8_goGlide_29 : decode cX8_goGlide 29 = .ok (.iload_n 1, 1) := by decide +kernel
theorem dX8_goGlide_30 : decode cX8_goGlide 30 = .ok (.iload_n 2, 1) := by decide +kernel
theorem dX8_goGlide_31 : decode cX8_goGlide 31 = .ok (.invokevirtual 316, 3) := by decide +kernel
theorem dX8_goGlide_34 : decode cX8_goGlide 34 = .ok (.isub, 1) := by decide +kernel
theorem dX8_goGlide_35 : decode cX8_goGlide 35 = .ok (.putfield 19, 3) := by decide +kernel
theorem dX8_goGlide_38 : decode cX8_goGlide 38 = .ok (.aload_n 0, 1) := by decide +kernel
theorem dX8_goGlide_39 : decode cX8_goGlide 39 = .ok (.dup, 1) := by decide +kernel
theorem dX8_goGlide_40 : decode cX8_goGlide 40 = .ok (.getfield 13, 3) := by decide +kernel
theorem dX8_goGlide_43 : decode cX8_goGlide 43 = .ok (.aload_n 0, 1) := by decide +kernel
theorem dX8_goGlide_44 : decode cX8_goGlide 44 = .ok (.aload_n 0, 1) := by decide +kernel
theorem dX8_goGlide_45 : decode cX8_goGlide 45 = .ok (.getfield 16, 3) := by decide +kernel
theorem dX8_goGlide_48 : decode cX8_goGlide 48 = .ok (.iload_n 1, 1) := by decide +kernel
theorem dX8_goGlide_49 : decode cX8_goGlide 49 = .ok (.invokevirtual 313, 3) := by decide +kernel
theorem dX8_goGlide_52 : decode cX8_goGlide 52 = .ok (.bipush 10, 2) := by decide +kernel
theorem dX8_goGlide_54 : decode cX8_goGlide 54 = .ok (.iload_n 2, 1) := by decide +kernel
theorem dX8_goGlide_55 : decode cX8_goGlide 55 = .ok (.isub, 1) := by decide +kernel
theorem dX8_goGlide_56 : decode cX8_goGlide 56 = .ok (.imul, 1) := by decide +kernel
theorem dX8_goGlide_57 : decode cX8_goGlide 57 = .ok (.iadd, 1) := by decide +kernel
theorem dX8_goGlide_58 : decode cX8_goGlide 58 = .ok (.putfield 13, 3) := by decide +kernel
theorem dX8_goGlide_61 : decode cX8_goGlide 61 = .ok (.aload_n 0, 1) := by decide +kernel
theorem dX8_goGlide_62 : decode cX8_goGlide 62 = .ok (.iload_n 1, 1) := by decide +kernel
theorem dX8_goGlide_63 : decode cX8_goGlide 63 = .ok (.putfield 16, 3) := by decide +kernel
theorem dX8_goGlide_66 : decode cX8_goGlide 66 = .ok (.iconst 1, 1) := by decide +kernel
theorem dX8_goGlide_67 : decode cX8_goGlide 67 = .ok (.ireturn, 1) := by decide +kernel
theorem dX8_enter_0 : decode cX8_enter 0 = .ok (.aload_n 0, 1) := by decide +kernel
theorem dX8_enter_1 : decode cX8_enter 1 = .ok (.iload_n 1, 1) := by decide +kernel
theorem dX8_enter_2 : decode cX8_enter 2 = .ok (.invokevirtual 235, 3) := by decide +kernel
theorem dX8_enter_5 : decode cX8_enter 5 = .ok (.ifCond .ne 7, 3) := by decide +kernel
theorem dX8_enter_8 : decode cX8_enter 8 = .ok (.sipush (-1001), 3) := by decide +kernel
theorem dX8_enter_11 : decode cX8_enter 11 = .ok (.ireturn, 1) := by decide +kernel
theorem dX8_enter_12 : decode cX8_enter 12 = .ok (.aload_n 0, 1) := by decide +kernel
theorem dX8_enter_13 : decode cX8_enter 13 = .ok (.getfield 35, 3) := by decide +kernel
theorem dX8_enter_16 : decode cX8_enter 16 = .ok (.iload_n 1, 1) := by decide +kernel
theorem dX8_enter_17 : decode cX8_enter 17 = .ok (.iaload, 1) := by decide +kernel
theorem dX8_enter_18 : decode cX8_enter 18 = .ok (.aload_n 0, 1) := by decide +kernel
theorem dX8_enter_19 : decode cX8_enter 19 = .ok (.getfield 16, 3) := by decide +kernel
theorem dX8_enter_22 : decode cX8_enter 22 = .ok (.if_icmp .eq 7, 3) := by decide +kernel
theorem dX8_enter_25 : decode cX8_enter 25 = .ok (.sipush (-1002), 3) := by decide +kernel
theorem dX8_enter_28 : decode cX8_enter 28 = .ok (.ireturn, 1) := by decide +kernel
theorem dX8_enter_29 : decode cX8_enter 29 = .ok (.aload_n 0, 1) := by decide +kernel
theorem dX8_enter_30 : decode cX8_enter 30 = .ok (.iload_n 1, 1) := by decide +kernel
theorem dX8_enter_31 : decode cX8_enter 31 = .ok (.putfield 22, 3) := by decide +kernel
theorem dX8_enter_34 : decode cX8_enter 34 = .ok (.aload_n 0, 1) := by decide +kernel
theorem dX8_enter_35 : decode cX8_enter 35 = .ok (.iload_n 1, 1) := by decide +kernel
theorem dX8_enter_36 : decode cX8_enter 36 = .ok (.invokevirtual 304, 3) := by decide +kernel
theorem dX8_enter_39 : decode cX8_enter 39 = .ok (.ireturn, 1) := by decide +kernel
theorem dX8_turn_0 : decode cX8_turn 0 = .ok (.aload_n 0, 1) := by decide +kernel
theorem dX8_turn_1 : decode cX8_turn 1 = .ok (.iload_n 1, 1) := by decide +kernel
theorem dX8_turn_2 : decode cX8_turn 2 = .ok (.invokevirtual 320, 3) := by decide +kernel
theorem dX8_turn_5 : decode cX8_turn 5 = .ok (.ifCond .ne 6, 3) := by decide +kernel
theorem dX8_turn_8 : decode cX8_turn 8 = .ok (.bipush (-2), 2) := by decide +kernel
theorem dX8_turn_10 : decode cX8_turn 10 = .ok (.ireturn, 1) := by decide +kernel
theorem dX8_turn_11 : decode cX8_turn 11 = .ok (.aload_n 0, 1) := by decide +kernel
theorem dX8_turn_12 : decode cX8_turn 12 = .ok (.getfield 22, 3) := by decide +kernel
theorem dX8_turn_15 : decode cX8_turn 15 = .ok (.ifCond .lt 15, 3) := by decide +kernel
theorem dX8_turn_18 : decode cX8_turn 18 = .ok (.aload_n 0, 1) := by decide +kernel
theorem dX8_turn_19 : decode cX8_turn 19 = .ok (.getfield 13, 3) := by decide +kernel
theorem dX8_turn_22 : decode cX8_turn 22 = .ok (.iload_n 1, 1) := by decide +kernel
theorem dX8_turn_23 : decode cX8_turn 23 = .ok (.iadd, 1) := by decide +kernel
theorem dX8_turn_24 : decode cX8_turn 24 = .ok (.sipush 9999, 3) := by decide +kernel
theorem dX8_turn_27 : decode cX8_turn 27 = .ok (.if_icmp .le 6, 3) := by decide +kernel
theorem dX8_turn_30 : decode cX8_turn 30 = .ok (.bipush (-3), 2) := by decide +kernel
theorem dX8_turn_32 : decode cX8_turn 32 = .ok (.ireturn, 1) := by decide +kernel
theorem dX8_turn_33 : decode cX8_turn 33 = .ok (.iconst 0, 1) := by decide +kernel
theorem dX8_turn_34 : decode cX8_turn 34 = .ok (.istore_n 2, 1) := by decide +kernel
theorem dX8_turn_35 : decode cX8_turn 35 = .ok (.iload_n 2, 1) := by decide +kernel
theorem dX8_turn_36 : decode cX8_turn 36 = .ok (.iload_n 1, 1) := by decide +kernel
theorem dX8_turn_37 : decode cX8_turn 37 = .ok (.if_icmp .ge 17, 3) := by decide +kernel
theorem dX8_turn_40 : decode cX8_turn 40 = .ok (.aload_n 0, 1) := by decide +kernel
theorem dX8_turn_41 : decode cX8_turn 41 = .ok (.aload_n 0, 1) := by decide +kernel
theorem dX8_turn_42 : decode cX8_turn 42 = .ok (.getfield 22, 3) := by decide +kernel
theorem dX8_turn_45 : decode cX8_turn 45 = .ok (.invokevirtual 323, 3) := by decide +kernel
theorem dX8_turn_48 : decode cX8_turn 48 = .ok (.iinc 2 1, 3) := by decide +kernel
theorem dX8_turn_51 : decode cX8_turn 51 = .ok (.goto (-16), 3) := by decide +kernel
theorem dX8_turn_54 : decode cX8_turn 54 = .ok (.aload_n 0, 1) := by decide +kernel
theorem dX8_turn_55 : decode cX8_turn 55 = .ok (.getfield 19, 3) := by decide +kernel
theorem dX8_turn_58 : decode cX8_turn 58 = .ok (.ireturn, 1) := by decide +kernel
theorem dX8_glide_0 : decode cX8_glide 0 = .ok (.aload_n 0, 1) := by decide +kernel
theorem dX8_glide_1 : decode cX8_glide 1 = .ok (.iload_n 1, 1) := by decide +kernel
theorem dX8_glide_2 : decode cX8_glide 2 = .ok (.invokevirtual 231, 3) := by decide +kernel
theorem dX8_glide_5 : decode cX8_glide 5 = .ok (.ifCond .eq 11, 3) := by decide +kernel
theorem dX8_glide_8 : decode cX8_glide 8 = .ok (.aload_n 0, 1) := by decide +kernel
theorem dX8_glide_9 : decode cX8_glide 9 = .ok (.iload_n 2, 1) := by decide +kernel
theorem dX8_glide_10 : decode cX8_glide 10 = .ok (.invokevirtual 326, 3) := by decide +kernel
theorem dX8_glide_13 : decode cX8_glide 13 = .ok (.ifCond .ne 6, 3) := by decide +kernel
theorem dX8_glide_16 : decode cX8_glide 16 = .ok (.bipush (-2), 2) := by decide +kernel
theorem dX8_glide_18 : decode cX8_glide 18 = .ok (.ireturn, 1) := by decide +kernel
theorem dX8_glide_19 : decode cX8_glide 19 = .ok (.aload_n 0, 1) := by decide +kernel
theorem dX8_glide_20 : decode cX8_glide 20 = .ok (.getfield 13, 3) := by decide +kernel
theorem dX8_glide_23 : decode cX8_glide 23 = .ok (.aload_n 0, 1) := by decide +kernel
theorem dX8_glide_24 : decode cX8_glide 24 = .ok (.aload_n 0, 1) := by decide +kernel
theorem dX8_glide_25 : decode cX8_glide 25 = .ok (.getfield 16, 3) := by decide +kernel
theorem dX8_glide_28 : decode cX8_glide 28 = .ok (.iload_n 1, 1) := by decide +kernel
theorem dX8_glide_29 : decode cX8_glide 29 = .ok (.invokevirtual 313, 3) := by decide +kernel
theorem dX8_glide_32 : decode cX8_glide 32 = .ok (.bipush 10, 2) := by decide +kernel
theorem dX8_glide_34 : decode cX8_glide 34 = .ok (.iload_n 2, 1) := by decide +kernel
theorem dX8_glide_35 : decode cX8_glide 35 = .ok (.isub, 1) := by decide +kernel
theorem dX8_glide_36 : decode cX8_glide 36 = .ok (.imul, 1) := by decide +kernel
theorem dX8_glide_37 : decode cX8_glide 37 = .ok (.iadd, 1) := by decide +kernel
theorem dX8_glide_38 : decode cX8_glide 38 = .ok (.sipush 9999, 3) := by decide +kernel
theorem dX8_glide_41 : decode cX8_glide 41 = .ok (.if_icmp .gt 12, 3) := by decide +kernel
theorem dX8_glide_44 : decode cX8_glide 44 = .ok (.aload_n 0, 1) := by decide +kernel
theorem dX8_glide_45 : decode cX8_glide 45 = .ok (.iload_n 1, 1) := by decide +kernel
theorem dX8_glide_46 : decode cX8_glide 46 = .ok (.iload_n 2, 1) := by decide +kernel
theorem dX8_glide_47 : decode cX8_glide 47 = .ok (.invokevirtual 329, 3) := by decide +kernel
theorem dX8_glide_50 : decode cX8_glide 50 = .ok (.ifCond .ne 6, 3) := by decide +kernel
theorem dX8_glide_53 : decode cX8_glide 53 = .ok (.bipush (-3), 2) := by decide +kernel
theorem dX8_glide_55 : decode cX8_glide 55 = .ok (.ireturn, 1) := by decide +kernel
theorem dX8_glide_56 : decode cX8_glide 56 = .ok (.aload_n 0, 1) := by decide +kernel
theorem dX8_glide_57 : decode cX8_glide 57 = .ok (.iconst (-1), 1) := by decide +kernel
theorem dX8_glide_58 : decode cX8_glide 58 = .ok (.putfield 22, 3) := by decide +kernel
theorem dX8_glide_61 : decode cX8_glide 61 = .ok (.aload_n 0, 1) := by decide +kernel
theorem dX8_glide_62 : decode cX8_glide 62 = .ok (.getfield 19, 3) := by decide +kernel
theorem dX8_glide_65 : decode cX8_glide 65 = .ok (.ireturn, 1) := by decide +kernel
theorem dX8_save_0 : decode cX8_save 0 = .ok (.aload_n 0, 1) := by decide +kernel
theorem dX8_save_1 : decode cX8_save 1 = .ok (.aload_n 0, 1) := by decide +kernel
theorem dX8_save_2 : decode cX8_save 2 = .ok (.getfield 13, 3) := by decide +kernel
theorem dX8_save_5 : decode cX8_save 5 = .ok (.putfield 99, 3) := by decide +kernel
theorem dX8_save_8 : decode cX8_save 8 = .ok (.aload_n 0, 1) := by decide +kernel
theorem dX8_save_9 : decode cX8_save 9 = .ok (.aload_n 0, 1) := by decide +kernel
theorem dX8_save_10 : decode cX8_save 10 = .ok (.getfield 16, 3) := by decide +kernel
theorem dX8_save_13 : decode cX8_save 13 = .ok (.putfield 102, 3) := by decide +kernel
theorem dX8_save_16 : decode cX8_save 16 = .ok (.aload_n 0, 1) := by decide +kernel
theorem dX8_save_17 : decode cX8_save 17 = .ok (.aload_n 0, 1) := by decide +kernel
theorem dX8_save_18 : decode cX8_save 18 = .ok (.getfield 19, 3) := by decide +kernel
theorem dX8_save_21 : decode cX8_save 21 = .ok (.putfield 105, 3) := by decide +kernel
theorem dX8_save_24 : decode cX8_save 24 = .ok (.return_, 1) := by decide +kernel
theorem dX8_putBack_0 : decode cX8_putBack 0 = .ok (.aload_n 0, 1) := by decide +kernel
theorem dX8_putBack_1 : decode cX8_putBack 1 = .ok (.aload_n 0, 1) := by decide +kernel
theorem dX8_putBack_2 : decode cX8_putBack 2 = .ok (.getfield 99, 3) := by decide +kernel
theorem dX8_putBack_5 : decode cX8_putBack 5 = .ok (.putfield 13, 3) := by decide +kernel
theorem dX8_putBack_8 : decode cX8_putBack 8 = .ok (.aload_n 0, 1) := by decide +kernel
theorem dX8_putBack_9 : decode cX8_putBack 9 = .ok (.aload_n 0, 1) := by decide +kernel
theorem dX8_putBack_10 : decode cX8_putBack 10 = .ok (.getfield 102, 3) := by decide +kernel
theorem dX8_putBack_13 : decode cX8_putBack 13 = .ok (.putfield 16, 3) := by decide +kernel
theorem dX8_putBack_16 : decode cX8_putBack 16 = .ok (.aload_n 0, 1) := by decide +kernel
theorem dX8_putBack_17 : decode cX8_putBack 17 = .ok (.aload_n 0, 1) := by decide +kernel
theorem dX8_putBack_18 : decode cX8_putBack 18 = .ok (.getfield 105, 3) := by decide +kernel
theorem dX8_putBack_21 : decode cX8_putBack 21 = .ok (.putfield 19, 3) := by decide +kernel
theorem dX8_putBack_24 : decode cX8_putBack 24 = .ok (.return_, 1) := by decide +kernel
theorem dX8_upOf_0 : decode cX8_upOf 0 = .ok (.aload_n 0, 1) := by decide +kernel
theorem dX8_upOf_1 : decode cX8_upOf 1 = .ok (.invokevirtual 332, 3) := by decide +kernel
theorem dX8_upOf_4 : decode cX8_upOf 4 = .ok (.iconst 0, 1) := by decide +kernel
theorem dX8_upOf_5 : decode cX8_upOf 5 = .ok (.istore_n 3, 1) := by decide +kernel
theorem dX8_upOf_6 : decode cX8_upOf 6 = .ok (.iload_n 3, 1) := by decide +kernel
theorem dX8_upOf_7 : decode cX8_upOf 7 = .ok (.iload_n 2, 1) := by decide +kernel
theorem dX8_upOf_8 : decode cX8_upOf 8 = .ok (.if_icmp .ge 14, 3) := by decide +kernel
theorem dX8_upOf_11 : decode cX8_upOf 11 = .ok (.aload_n 0, 1) := by decide +kernel
theorem dX8_upOf_12 : decode cX8_upOf 12 = .ok (.iload_n 1, 1) := by decide +kernel
theorem dX8_upOf_13 : decode cX8_upOf 13 = .ok (.invokevirtual 323, 3) := by decide +kernel
theorem dX8_upOf_16 : decode cX8_upOf 16 = .ok (.iinc 3 1, 3) := by decide +kernel
theorem dX8_upOf_19 : decode cX8_upOf 19 = .ok (.goto (-13), 3) := by decide +kernel
theorem dX8_upOf_22 : decode cX8_upOf 22 = .ok (.aload_n 0, 1) := by decide +kernel
theorem dX8_upOf_23 : decode cX8_upOf 23 = .ok (.getfield 19, 3) := by decide +kernel
theorem dX8_upOf_26 : decode cX8_upOf 26 = .ok (.istore_n 3, 1) := by decide +kernel
theorem dX8_upOf_27 : decode cX8_upOf 27 = .ok (.aload_n 0, 1) := by decide +kernel
theorem dX8_upOf_28 : decode cX8_upOf 28 = .ok (.invokevirtual 335, 3) := by decide +kernel
theorem dX8_upOf_31 : decode cX8_upOf 31 = .ok (.iload_n 3, 1) := by decide +kernel
theorem dX8_upOf_32 : decode cX8_upOf 32 = .ok (.ireturn, 1) := by decide +kernel
theorem dX8_up_0 : decode cX8_up 0 = .ok (.aload_n 0, 1) := by decide +kernel
theorem dX8_up_1 : decode cX8_up 1 = .ok (.iload_n 1, 1) := by decide +kernel
theorem dX8_up_2 : decode cX8_up 2 = .ok (.invokevirtual 235, 3) := by decide +kernel
theorem dX8_up_5 : decode cX8_up 5 = .ok (.ifCond .ne 5, 3) := by decide +kernel
theorem dX8_up_8 : decode cX8_up 8 = .ok (.iconst (-1), 1) := by decide +kernel
theorem dX8_up_9 : decode cX8_up 9 = .ok (.ireturn, 1) := by decide +kernel
theorem dX8_up_10 : decode cX8_up 10 = .ok (.aload_n 0, 1) := by decide +kernel
theorem dX8_up_11 : decode cX8_up 11 = .ok (.iload_n 2, 1) := by decide +kernel
theorem dX8_up_12 : decode cX8_up 12 = .ok (.invokevirtual 320, 3) := by decide +kernel
theorem dX8_up_15 : decode cX8_up 15 = .ok (.ifCond .eq 12, 3) := by decide +kernel
theorem dX8_up_18 : decode cX8_up 18 = .ok (.aload_n 0, 1) := by decide +kernel
theorem dX8_up_19 : decode cX8_up 19 = .ok (.iload_n 1, 1) := by decide +kernel
theorem dX8_up_20 : decode cX8_up 20 = .ok (.iload_n 2, 1) := by decide +kernel
theorem dX8_up_21 : decode cX8_up 21 = .ok (.invokevirtual 338, 3) := by decide +kernel
theorem dX8_up_24 : decode cX8_up 24 = .ok (.goto 5, 3) := by decide +kernel
theorem dX8_up_27 : decode cX8_up 27 = .ok (.bipush (-2), 2) := by decide +kernel
theorem dX8_up_29 : decode cX8_up 29 = .ok (.ireturn, 1) := by decide +kernel
theorem dX8_top_0 : decode cX8_top 0 = .ok (.aload_n 0, 1) := by decide +kernel
theorem dX8_top_1 : decode cX8_top 1 = .ok (.iload_n 1, 1) := by decide +kernel
theorem dX8_top_2 : decode cX8_top 2 = .ok (.invokevirtual 235, 3) := by decide +kernel
theorem dX8_top_5 : decode cX8_top 5 = .ok (.ifCond .eq 13, 3) := by decide +kernel
theorem dX8_top_8 : decode cX8_top 8 = .ok (.aload_n 0, 1) := by decide +kernel
theorem dX8_top_9 : decode cX8_top 9 = .ok (.iload_n 2, 1) := by decide +kernel
theorem dX8_top_10 : decode cX8_top 10 = .ok (.iconst 0, 1) := by decide +kernel
theorem dX8_top_11 : decode cX8_top 11 = .ok (.iconst 1, 1) := by decide +kernel
theorem dX8_top_12 : decode cX8_top 12 = .ok (.invokevirtual 227, 3) := by decide +kernel
theorem dX8_top_15 : decode cX8_top 15 = .ok (.ifCond .ne 5, 3) := by decide +kernel
theorem dX8_top_18 : decode cX8_top 18 = .ok (.iconst (-1), 1) := by decide +kernel
theorem dX8_top_19 : decode cX8_top 19 = .ok (.ireturn, 1) := by decide +kernel
theorem dX8_top_20 : decode cX8_top 20 = .ok (.aload_n 0, 1) := by decide +kernel
theorem dX8_top_21 : decode cX8_top 21 = .ok (.invokevirtual 332, 3) := by decide +kernel
theorem dX8_top_24 : decode cX8_top 24 = .ok (.aload_n 0, 1) := by decide +kernel
theorem dX8_top_25 : decode cX8_top 25 = .ok (.getfield 19, 3) := by decide +kernel
theorem dX8_top_28 : decode cX8_top 28 = .ok (.istore_n 3, 1) := by decide +kernel
theorem dX8_top_29 : decode cX8_top 29 = .ok (.iconst 0, 1) := by decide +kernel
theorem dX8_top_30 : decode cX8_top 30 = .ok (.istore 4, 2) := by decide +kernel
theorem dX8_top_32 : decode cX8_top 32 = .ok (.iconst 1, 1) := by decide +kernel
theorem dX8_top_33 : decode cX8_top 33 = .ok (.istore 5, 2) := by decide +kernel
theorem dX8_top_35 : decode cX8_top 35 = .ok (.iload 5, 2) := by decide +kernel
theorem dX8_top_37 : decode cX8_top 37 = .ok (.bipush 61, 2) := by decide +kernel
theorem dX8_top_39 : decode cX8_top 39 = .ok (.if_icmp .ge 34, 3) := by decide +kernel
theorem dX8_top_42 : decode cX8_top 42 = .ok (.aload_n 0, 1) := by decide +kernel
theorem dX8_top_43 : decode cX8_top 43 = .ok (.iload_n 1, 1) := by decide +kernel
theorem dX8_top_44 : decode cX8_top 44 = .ok (.invokevirtual 323, 3) := by decide +kernel
theorem dX8_top_47 : decode cX8_top 47 = .ok (.aload_n 0, 1) := by decide +kernel
theorem dX8_top_48 : decode cX8_top 48 = .ok (.getfield 19, 3) := by decide +kernel
theorem dX8_top_51 : decode cX8_top 51 = .ok (.iload_n 3, 1) := by decide +kernel
theorem dX8_top_52 : decode cX8_top 52 = .ok (.if_icmp .gt 6, 3) := by decide +kernel
theorem dX8_top_55 : decode cX8_top 55 = .ok (.goto 12, 3) := by decide +kernel
theorem dX8_top_58 : decode cX8_top 58 = .ok (.aload_n 0, 1) := by decide +kernel
theorem dX8_top_59 : decode cX8_top 59 = .ok (.getfield 19, 3) := by decide +kernel
theorem dX8_top_62 : decode cX8_top 62 = .ok (.istore_n 3, 1) := by decide +kernel
theorem dX8_top_63 : decode cX8_top 63 = .ok (.iload 5, 2) := by decide +kernel
theorem dX8_top_65 : decode cX8_top 65 = .ok (.istore 4, 2) := by decide +kernel
theorem dX8_top_67 : decode cX8_top 67 = .ok (.iinc 5 1, 3) := by decide +kernel
theorem dX8_top_70 : decode cX8_top 70 = .ok (.goto (-35), 3) := by decide +kernel
theorem dX8_top_73 : decode cX8_top 73 = .ok (.aload_n 0, 1) := by decide +kernel
theorem dX8_top_74 : decode cX8_top 74 = .ok (.invokevirtual 335, 3) := by decide +kernel
theorem dX8_top_77 : decode cX8_top 77 = .ok (.iload_n 2, 1) := by decide +kernel
theorem dX8_top_78 : decode cX8_top 78 = .ok (.ifCond .ne 7, 3) := by decide +kernel
theorem dX8_top_81 : decode cX8_top 81 = .ok (.iload_n 3, 1) := by decide +kernel
theorem dX8_top_82 : decode cX8_top 82 = .ok (.goto 5, 3) := by decide +kernel
theorem dX8_top_85 : decode cX8_top 85 = .ok (.iload 4, 2) := by decide +kernel
theorem dX8_top_87 : decode cX8_top 87 = .ok (.ireturn, 1) := by decide +kernel
theorem dX8_arrives_0 : decode cX8_arrives 0 = .ok (.aload_n 0, 1) := by decide +kernel
theorem dX8_arrives_1 : decode cX8_arrives 1 = .ok (.iload_n 1, 1) := by decide +kernel
theorem dX8_arrives_2 : decode cX8_arrives 2 = .ok (.invokevirtual 231, 3) := by decide +kernel
theorem dX8_arrives_5 : decode cX8_arrives 5 = .ok (.ifCond .eq 11, 3) := by decide +kernel
theorem dX8_arrives_8 : decode cX8_arrives 8 = .ok (.aload_n 0, 1) := by decide +kernel
theorem dX8_arrives_9 : decode cX8_arrives 9 = .ok (.iload_n 2, 1) := by decide +kernel
theorem dX8_arrives_10 : decode cX8_arrives 10 = .ok (.invokevirtual 326, 3) := by decide +kernel
theorem dX8_arrives_13 : decode cX8_arrives 13 = .ok (.ifCond .ne 6, 3) := by decide +kernel
theorem dX8_arrives_16 : decode cX8_arrives 16 = .ok (.bipush (-2), 2) := by decide +kernel
theorem dX8_arrives_18 : decode cX8_arrives 18 = .ok (.ireturn, 1) := by decide +kernel
theorem dX8_arrives_19 : decode cX8_arrives 19 = .ok (.aload_n 0, 1) := by decide +kernel
theorem dX8_arrives_20 : decode cX8_arrives 20 = .ok (.getfield 19, 3) := by decide +kernel
theorem dX8_arrives_23 : decode cX8_arrives 23 = .ok (.aload_n 0, 1) := by decide +kernel
theorem dX8_arrives_24 : decode cX8_arrives 24 = .ok (.aload_n 0, 1) := by decide +kernel
theorem dX8_arrives_25 : decode cX8_arrives 25 = .ok (.getfield 16, 3) := by decide +kernel
theorem dX8_arrives_28 : decode cX8_arrives 28 = .ok (.iload_n 1, 1) := by decide +kernel
theorem dX8_arrives_29 : decode cX8_arrives 29 = .ok (.iload_n 2, 1) := by decide +kernel
theorem dX8_arrives_30 : decode cX8_arrives 30 = .ok (.invokevirtual 316, 3) := by decide +kernel
theorem dX8_arrives_33 : decode cX8_arrives 33 = .ok (.isub, 1) := by decide +kernel
theorem dX8_arrives_34 : decode cX8_arrives 34 = .ok (.istore_n 3, 1) := by decide +kernel
theorem dX8_arrives_35 : decode cX8_arrives 35 = .ok (.iload_n 3, 1) := by decide +kernel
theorem dX8_arrives_36 : decode cX8_arrives 36 = .ok (.ifCond .ge 8, 3) := by decide +kernel
theorem dX8_arrives_39 : decode cX8_arrives 39 = .ok (.bipush (-5), 2) := by decide +kernel
theorem dX8_arrives_41 : decode cX8_arrives 41 = .ok (.goto 4, 3) := by decide +kernel
theorem dX8_arrives_44 : decode cX8_arrives 44 = .ok (.iload_n 3, 1) := by decide +kernel
theorem dX8_arrives_45 : decode cX8_arrives 45 = .ok (.ireturn, 1) := by decide +kernel
theorem dX8_outed_0 : decode cX8_outed 0 = .ok (.aload_n 0, 1) := by decide +kernel
theorem dX8_outed_1 : decode cX8_outed 1 = .ok (.iload_n 1, 1) := by decide +kernel
theorem dX8_outed_2 : decode cX8_outed 2 = .ok (.invokevirtual 231, 3) := by decide +kernel
theorem dX8_outed_5 : decode cX8_outed 5 = .ok (.ifCond .eq 11, 3) := by decide +kernel
theorem dX8_outed_8 : decode cX8_outed 8 = .ok (.aload_n 0, 1) := by decide +kernel
theorem dX8_outed_9 : decode cX8_outed 9 = .ok (.iload_n 2, 1) := by decide +kernel
theorem dX8_outed_10 : decode cX8_outed 10 = .ok (.invokevirtual 326, 3) := by decide +kernel
theorem dX8_outed_13 : decode cX8_outed 13 = .ok (.ifCond .ne 6, 3) := by decide +kernel
theorem dX8_outed_16 : decode cX8_outed 16 = .ok (.bipush (-2), 2) := by decide +kernel
theorem dX8_outed_18 : decode cX8_outed 18 = .ok (.ireturn, 1) := by decide +kernel
theorem dX8_outed_19 : decode cX8_outed 19 = .ok (.aload_n 0, 1) := by decide +kernel
theorem dX8_outed_20 : decode cX8_outed 20 = .ok (.getfield 19, 3) := by decide +kernel
theorem dX8_outed_23 : decode cX8_outed 23 = .ok (.iconst 5, 1) := by decide +kernel
theorem dX8_outed_24 : decode cX8_outed 24 = .ok (.iload_n 2, 1) := by decide +kernel
theorem dX8_outed_25 : decode cX8_outed 25 = .ok (.iadd, 1) := by decide +kernel
theorem dX8_outed_26 : decode cX8_outed 26 = .ok (.idiv, 1) := by decide +kernel
theorem dX8_outed_27 : decode cX8_outed 27 = .ok (.istore_n 3, 1) := by decide +kernel
theorem dX8_outed_28 : decode cX8_outed 28 = .ok (.iload_n 3, 1) := by decide +kernel
theorem dX8_outed_29 : decode cX8_outed 29 = .ok (.aload_n 0, 1) := by decide +kernel
theorem dX8_outed_30 : decode cX8_outed 30 = .ok (.aload_n 0, 1) := by decide +kernel
theorem dX8_outed_31 : decode cX8_outed 31 = .ok (.getfield 16, 3) := by decide +kernel
theorem dX8_outed_34 : decode cX8_outed 34 = .ok (.iload_n 1, 1) := by decide +kernel
theorem dX8_outed_35 : decode cX8_outed 35 = .ok (.invokevirtual 313, 3) := by decide +kernel
theorem dX8_outed_38 : decode cX8_outed 38 = .ok (.if_icmp .ge 7, 3) := by decide +kernel
theorem dX8_outed_41 : decode cX8_outed 41 = .ok (.iload_n 3, 1) := by decide +kernel
theorem dX8_outed_42 : decode cX8_outed 42 = .ok (.goto 12, 3) := by decide +kernel
theorem dX8_outed_45 : decode cX8_outed 45 = .ok (.aload_n 0, 1) := by decide +kernel
theorem dX8_outed_46 : decode cX8_outed 46 = .ok (.aload_n 0, 1) := by decide +kernel
theorem dX8_outed_47 : decode cX8_outed 47 = .ok (.getfield 16, 3) := by decide +kernel
theorem dX8_outed_50 : decode cX8_outed 50 = .ok (.iload_n 1, 1) := by decide +kernel
theorem dX8_outed_51 : decode cX8_outed 51 = .ok (.invokevirtual 313, 3) := by decide +kernel
theorem dX8_outed_54 : decode cX8_outed 54 = .ok (.ireturn, 1) := by decide +kernel
theorem dX8_canReach_0 : decode cX8_canReach 0 = .ok (.aload_n 0, 1) := by decide +kernel
theorem dX8_canReach_1 : decode cX8_canReach 1 = .ok (.getfield 19, 3) := by decide +kernel
theorem dX8_canReach_4 : decode cX8_canReach 4 = .ok (.aload_n 0, 1) := by decide +kernel
theorem dX8_canReach_5 : decode cX8_canReach 5 = .ok (.aload_n 0, 1) := by decide +kernel
theorem dX8_canReach_6 : decode cX8_canReach 6 = .ok (.getfield 16, 3) := by decide +kernel
theorem dX8_canReach_9 : decode cX8_canReach 9 = .ok (.aload_n 0, 1) := by decide +kernel
theorem dX8_canReach_10 : decode cX8_canReach 10 = .ok (.getfield 35, 3) := by decide +kernel
theorem dX8_canReach_13 : decode cX8_canReach 13 = .ok (.iload_n 1, 1) := by decide +kernel
theorem dX8_canReach_14 : decode cX8_canReach 14 = .ok (.iaload, 1) := by decide +kernel
theorem dX8_canReach_15 : decode cX8_canReach 15 = .ok (.iload_n 2, 1) := by decide +kernel
theorem dX8_canReach_16 : decode cX8_canReach 16 = .ok (.invokevirtual 316, 3) := by decide +kernel
theorem dX8_canReach_19 : decode cX8_canReach 19 = .ok (.isub, 1) := by decide +kernel
theorem dX8_canReach_20 : decode cX8_canReach 20 = .ok (.istore_n 3, 1) := by decide +kernel
theorem dX8_canReach_21 : decode cX8_canReach 21 = .ok (.iload_n 3, 1) := by decide +kernel
theorem dX8_canReach_22 : decode cX8_canReach 22 = .ok (.ifCond .lt 15, 3) := by decide +kernel
theorem dX8_canReach_25 : decode cX8_canReach 25 = .ok (.iload_n 3, 1) := by decide +kernel
theorem dX8_canReach_26 : decode cX8_canReach 26 = .ok (.aload_n 0, 1) := by decide +kernel
theorem dX8_canReach_27 : decode cX8_canReach 27 = .ok (.invokevirtual 310, 3) := by decide +kernel
theorem dX8_canReach_30 : decode cX8_canReach 30 = .ok (.if_icmp .lt 7, 3) := by decide +kernel
theorem dX8_canReach_33 : decode cX8_canReach 33 = .ok (.iconst 1, 1) := by decide +kernel
theorem dX8_canReach_34 : decode cX8_canReach 34 = .ok (.goto 4, 3) := by decide +kernel
theorem dX8_canReach_37 : decode cX8_canReach 37 = .ok (.iconst 0, 1) := by decide +kernel
theorem dX8_canReach_38 : decode cX8_canReach 38 = .ok (.ireturn, 1) := by decide +kernel
theorem dX8_reach_0 : decode cX8_reach 0 = .ok (.aload_n 0, 1) := by decide +kernel
theorem dX8_reach_1 : decode cX8_reach 1 = .ok (.iload_n 1, 1) := by decide +kernel
theorem dX8_reach_2 : decode cX8_reach 2 = .ok (.invokevirtual 326, 3) := by decide +kernel
theorem dX8_reach_5 : decode cX8_reach 5 = .ok (.ifCond .ne 6, 3) := by decide +kernel
theorem dX8_reach_8 : decode cX8_reach 8 = .ok (.bipush (-2), 2) := by decide +kernel
theorem dX8_reach_10 : decode cX8_reach 10 = .ok (.ireturn, 1) := by decide +kernel
theorem dX8_reach_11 : decode cX8_reach 11 = .ok (.iconst 0, 1) := by decide +kernel
theorem dX8_reach_12 : decode cX8_reach 12 = .ok (.istore_n 2, 1) := by decide +kernel
theorem dX8_reach_13 : decode cX8_reach 13 = .ok (.iconst 0, 1) := by decide +kernel
theorem dX8_reach_14 : decode cX8_reach 14 = .ok (.istore_n 3, 1) := by decide +kernel
theorem dX8_reach_15 : decode cX8_reach 15 = .ok (.iload_n 3, 1) := by decide +kernel
theorem dX8_reach_16 : decode cX8_reach 16 = .ok (.aload_n 0, 1) := by decide +kernel
theorem dX8_reach_17 : decode cX8_reach 17 = .ok (.getfield 7, 3) := by decide +kernel
theorem dX8_reach_20 : decode cX8_reach 20 = .ok (.if_icmp .ge 28, 3) := by decide +kernel
theorem dX8_reach_23 : decode cX8_reach 23 = .ok (.iload_n 2, 1) := by decide +kernel
theorem dX8_reach_24 : decode cX8_reach 24 = .ok (.aload_n 0, 1) := by decide +kernel
theorem dX8_reach_25 : decode cX8_reach 25 = .ok (.iload_n 3, 1) := by decide +kernel
theorem dX8_reach_26 : decode cX8_reach 26 = .ok (.iload_n 1, 1) := by decide +kernel
theorem dX8_reach_27 : decode cX8_reach 27 = .ok (.invokevirtual 341, 3) := by decide +kernel
theorem dX8_reach_30 : decode cX8_reach 30 = .ok (.ifCond .eq 9, 3) := by decide +kernel
theorem dX8_reach_33 : decode cX8_reach 33 = .ok (.iconst 1, 1) := by decide +kernel
theorem dX8_reach_34 : decode cX8_reach 34 = .ok (.iload_n 3, 1) := by decide +kernel
theorem dX8_reach_35 : decode cX8_reach 35 = .ok (.ishl, 1) := by decide +kernel
theorem dX8_reach_36 : decode cX8_reach 36 = .ok (.goto 4, 3) := by decide +kernel
theorem dX8_reach_39 : decode cX8_reach 39 = .ok (.iconst 0, 1) := by decide +kernel
theorem dX8_reach_40 : decode cX8_reach 40 = .ok (.ior, 1) := by decide +kernel
theorem dX8_reach_41 : decode cX8_reach 41 = .ok (.istore_n 2, 1) := by decide +kernel
theorem dX8_reach_42 : decode cX8_reach 42 = .ok (.iinc 3 1, 3) := by decide +kernel
theorem dX8_reach_45 : decode cX8_reach 45 = .ok (.goto (-30), 3) := by decide +kernel
theorem dX8_reach_48 : decode cX8_reach 48 = .ok (.iload_n 2, 1) := by decide +kernel
theorem dX8_reach_49 : decode cX8_reach 49 = .ok (.ireturn, 1) := by decide +kernel
theorem dX8_next_0 : decode cX8_next 0 = .ok (.aload_n 0, 1) := by decide +kernel
theorem dX8_next_1 : decode cX8_next 1 = .ok (.iload_n 1, 1) := by decide +kernel
theorem dX8_next_2 : decode cX8_next 2 = .ok (.invokevirtual 326, 3) := by decide +kernel
theorem dX8_next_5 : decode cX8_next 5 = .ok (.ifCond .ne 6, 3) := by decide +kernel
theorem dX8_next_8 : decode cX8_next 8 = .ok (.bipush (-2), 2) := by decide +kernel
theorem dX8_next_10 : decode cX8_next 10 = .ok (.ireturn, 1) := by decide +kernel
theorem dX8_next_11 : decode cX8_next 11 = .ok (.bipush (-5), 2) := by decide +kernel
theorem dX8_next_13 : decode cX8_next 13 = .ok (.istore_n 2, 1) := by decide +kernel
theorem dX8_next_14 : decode cX8_next 14 = .ok (.iconst 0, 1) := by decide +kernel
theorem dX8_next_15 : decode cX8_next 15 = .ok (.istore_n 3, 1) := by decide +kernel
theorem dX8_next_16 : decode cX8_next 16 = .ok (.iconst 0, 1) := by decide +kernel
theorem dX8_next_17 : decode cX8_next 17 = .ok (.istore 4, 2) := by decide +kernel
theorem dX8_next_19 : decode cX8_next 19 = .ok (.iload 4, 2) := by decide +kernel
theorem dX8_next_21 : decode cX8_next 21 = .ok (.aload_n 0, 1) := by decide +kernel
theorem dX8_next_22 : decode cX8_next 22 = .ok (.getfield 7, 3) := by decide +kernel
theorem dX8_next_25 : decode cX8_next 25 = .ok (.if_icmp .ge 71, 3) := by decide +kernel
theorem dX8_next_28 : decode cX8_next 28 = .ok (.aload_n 0, 1) := by decide +kernel
theorem dX8_next_29 : decode cX8_next 29 = .ok (.iload 4, 2) := by decide +kernel
theorem dX8_next_31 : decode cX8_next 31 = .ok (.iload_n 1, 1) := by decide +kernel
theorem dX8_next_32 : decode cX8_next 32 = .ok (.invokevirtual 341, 3) := by decide +kernel
theorem dX8_next_35 : decode cX8_next 35 = .ok (.ifCond .ne 6, 3) := by decide +kernel
theorem dX8_next_38 : decode cX8_next 38 = .ok (.goto 52, 3) := by decide +kernel
theorem dX8_next_41 : decode cX8_next 41 = .ok (.aload_n 0, 1) := by decide +kernel
theorem dX8_next_42 : decode cX8_next 42 = .ok (.invokevirtual 332, 3) := by decide +kernel
theorem dX8_next_45 : decode cX8_next 45 = .ok (.aload_n 0, 1) := by decide +kernel
theorem dX8_next_46 : decode cX8_next 46 = .ok (.aload_n 0, 1) := by decide +kernel
theorem dX8_next_47 : decode cX8_next 47 = .ok (.getfield 35, 3) := by decide +kernel
theorem dX8_next_50 : decode cX8_next 50 = .ok (.iload 4, 2) := by decide +kernel
theorem dX8_next_52 : decode cX8_next 52 = .ok (.iaload, 1) := by decide +kernel
theorem dX8_next_53 : decode cX8_next 53 = .ok (.iload_n 1, 1) := by decide +kernel
theorem dX8_next_54 : decode cX8_next 54 = .ok (.invokevirtual 329, 3) := by decide +kernel
theorem dX8_next_57 : decode cX8_next 57 = .ok (.istore 5, 2) := by decide +kernel
theorem dX8_next_59 : decode cX8_next 59 = .ok (.aload_n 0, 1) := by decide +kernel
theorem dX8_next_60 : decode cX8_next 60 = .ok (.iload 4, 2) := by decide +kernel
theorem dX8_next_62 : decode cX8_next 62 = .ok (.invokevirtual 304, 3) := by decide +kernel
theorem dX8_next_65 : decode cX8_next 65 = .ok (.istore 6, 2) := by decide +kernel
theorem dX8_next_67 : decode cX8_next 67 = .ok (.aload_n 0, 1) := by decide +kernel
theorem dX8_next_68 : decode cX8_next 68 = .ok (.invokevirtual 335, 3) := by decide +kernel
theorem dX8_next_71 : decode cX8_next 71 = .ok (.iload_n 2, 1) := by decide +kernel
theorem dX8_next_72 : decode cX8_next 72 = .ok (.ifCond .lt 12, 3) := by decide +kernel
theorem dX8_next_75 : decode cX8_next 75 = .ok (.iload 6, 2) := by decide +kernel
theorem dX8_next_77 : decode cX8_next 77 = .ok (.iload_n 3, 1) := by decide +kernel
theorem dX8_next_78 : decode cX8_next 78 = .ok (.if_icmp .gt 6, 3) := by decide +kernel
theorem dX8_next_81 : decode cX8_next 81 = .ok (.goto 9, 3) := by decide +kernel
theorem dX8_next_84 : decode cX8_next 84 = .ok (.iload 4, 2) := by decide +kernel
theorem dX8_next_86 : decode cX8_next 86 = .ok (.istore_n 2, 1) := by decide +kernel
theorem dX8_next_87 : decode cX8_next 87 = .ok (.iload 6, 2) := by decide +kernel
theorem dX8_next_89 : decode cX8_next 89 = .ok (.istore_n 3, 1) := by decide +kernel
theorem dX8_next_90 : decode cX8_next 90 = .ok (.iinc 4 1, 3) := by decide +kernel
theorem dX8_next_93 : decode cX8_next 93 = .ok (.goto (-74), 3) := by decide +kernel
theorem dX8_next_96 : decode cX8_next 96 = .ok (.iload_n 2, 1) := by decide +kernel
theorem dX8_next_97 : decode cX8_next 97 = .ok (.ireturn, 1) := by decide +kernel
theorem dX8_lowest_0 : decode cX8_lowest 0 = .ok (.aload_n 0, 1) := by decide +kernel
theorem dX8_lowest_1 : decode cX8_lowest 1 = .ok (.iload_n 1, 1) := by decide +kernel
theorem dX8_lowest_2 : decode cX8_lowest 2 = .ok (.invokevirtual 235, 3) := by decide +kernel
theorem dX8_lowest_5 : decode cX8_lowest 5 = .ok (.ifCond .ne 5, 3) := by decide +kernel
theorem dX8_lowest_8 : decode cX8_lowest 8 = .ok (.iconst (-1), 1) := by decide +kernel
theorem dX8_lowest_9 : decode cX8_lowest 9 = .ok (.ireturn, 1) := by decide +kernel
theorem dX8_lowest_10 : decode cX8_lowest 10 = .ok (.aload_n 0, 1) := by decide +kernel
theorem dX8_lowest_11 : decode cX8_lowest 11 = .ok (.iload_n 2, 1) := by decide +kernel
theorem dX8_lowest_12 : decode cX8_lowest 12 = .ok (.invokevirtual 326, 3) := by decide +kernel
theorem dX8_lowest_15 : decode cX8_lowest 15 = .ok (.ifCond .ne 6, 3) := by decide +kernel
theorem dX8_lowest_18 : decode cX8_lowest 18 = .ok (.bipush (-2), 2) := by decide +kernel
theorem dX8_lowest_20 : decode cX8_lowest 20 = .ok (.ireturn, 1) := by decide +kernel
theorem dX8_lowest_21 : decode cX8_lowest 21 = .ok (.aload_n 0, 1) := by decide +kernel
theorem dX8_lowest_22 : decode cX8_lowest 22 = .ok (.aload_n 0, 1) := by decide +kernel
theorem dX8_lowest_23 : decode cX8_lowest 23 = .ok (.getfield 16, 3) := by decide +kernel
theorem dX8_lowest_26 : decode cX8_lowest 26 = .ok (.aload_n 0, 1) := by decide +kernel
theorem dX8_lowest_27 : decode cX8_lowest 27 = .ok (.getfield 35, 3) := by decide +kernel
theorem dX8_lowest_30 : decode cX8_lowest 30 = .ok (.iload_n 1, 1) := by decide +kernel
theorem dX8_lowest_31 : decode cX8_lowest 31 = .ok (.iaload, 1) := by decide +kernel
theorem dX8_lowest_32 : decode cX8_lowest 32 = .ok (.iload_n 2, 1) := by decide +kernel
theorem dX8_lowest_33 : decode cX8_lowest 33 = .ok (.invokevirtual 316, 3) := by decide +kernel
theorem dX8_lowest_36 : decode cX8_lowest 36 = .ok (.aload_n 0, 1) := by decide +kernel
theorem dX8_lowest_37 : decode cX8_lowest 37 = .ok (.invokevirtual 310, 3) := by decide +kernel
theorem dX8_lowest_40 : decode cX8_lowest 40 = .ok (.iadd, 1) := by decide +kernel
theorem dX8_lowest_41 : decode cX8_lowest 41 = .ok (.istore_n 3, 1) := by decide +kernel
theorem dX8_lowest_42 : decode cX8_lowest 42 = .ok (.iload_n 3, 1) := by decide +kernel
theorem dX8_lowest_43 : decode cX8_lowest 43 = .ok (.sipush 400, 3) := by decide +kernel
theorem dX8_lowest_46 : decode cX8_lowest 46 = .ok (.if_icmp .le 8, 3) := by decide +kernel
theorem dX8_lowest_49 : decode cX8_lowest 49 = .ok (.bipush (-5), 2) := by decide +kernel
theorem dX8_lowest_51 : decode cX8_lowest 51 = .ok (.goto 4, 3) := by decide +kernel
theorem dX8_lowest_54 : decode cX8_lowest 54 = .ok (.iload_n 3, 1) := by decide +kernel
theorem dX8_lowest_55 : decode cX8_lowest 55 = .ok (.ireturn, 1) := by decide +kernel
theorem dX8_rises_0 : decode cX8_rises 0 = .ok (.aload_n 0, 1) := by decide +kernel
theorem dX8_rises_1 : decode cX8_rises 1 = .ok (.aload_n 0, 1) := by decide +kernel
theorem dX8_rises_2 : decode cX8_rises 2 = .ok (.getfield 35, 3) := by decide +kernel
theorem dX8_rises_5 : decode cX8_rises 5 = .ok (.iload_n 1, 1) := by decide +kernel
theorem dX8_rises_6 : decode cX8_rises 6 = .ok (.iaload, 1) := by decide +kernel
theorem dX8_rises_7 : decode cX8_rises 7 = .ok (.iload_n 2, 1) := by decide +kernel
theorem dX8_rises_8 : decode cX8_rises 8 = .ok (.iload_n 3, 1) := by decide +kernel
theorem dX8_rises_9 : decode cX8_rises 9 = .ok (.invokevirtual 316, 3) := by decide +kernel
theorem dX8_rises_12 : decode cX8_rises 12 = .ok (.aload_n 0, 1) := by decide +kernel
theorem dX8_rises_13 : decode cX8_rises 13 = .ok (.invokevirtual 310, 3) := by decide +kernel
theorem dX8_rises_16 : decode cX8_rises 16 = .ok (.iadd, 1) := by decide +kernel
theorem dX8_rises_17 : decode cX8_rises 17 = .ok (.istore 5, 2) := by decide +kernel
theorem dX8_rises_19 : decode cX8_rises 19 = .ok (.iconst 0, 1) := by decide +kernel
theorem dX8_rises_20 : decode cX8_rises 20 = .ok (.istore 6, 2) := by decide +kernel
theorem dX8_rises_22 : decode cX8_rises 22 = .ok (.iload 6, 2) := by decide +kernel
theorem dX8_rises_24 : decode cX8_rises 24 = .ok (.iload 4, 2) := by decide +kernel
theorem dX8_rises_26 : decode cX8_rises 26 = .ok (.if_icmp .ge 23, 3) := by decide +kernel
theorem dX8_rises_29 : decode cX8_rises 29 = .ok (.aload_n 0, 1) := by decide +kernel
theorem dX8_rises_30 : decode cX8_rises 30 = .ok (.getfield 19, 3) := by decide +kernel
theorem dX8_rises_33 : decode cX8_rises 33 = .ok (.iload 5, 2) := by decide +kernel
theorem dX8_rises_35 : decode cX8_rises 35 = .ok (.if_icmp .ge 14, 3) := by decide +kernel
theorem dX8_rises_38 : decode cX8_rises 38 = .ok (.aload_n 0, 1) := by decide +kernel
theorem dX8_rises_39 : decode cX8_rises 39 = .ok (.iload_n 1, 1) := by decide +kernel
theorem dX8_rises_40 : decode cX8_rises 40 = .ok (.invokevirtual 323, 3) := by decide +kernel
theorem dX8_rises_43 : decode cX8_rises 43 = .ok (.iinc 6 1, 3) := by decide +kernel
theorem dX8_rises_46 : decode cX8_rises 46 = .ok (.goto (-24), 3) := by decide +kernel
theorem dX8_rises_49 : decode cX8_rises 49 = .ok (.aload_n 0, 1) := by decide +kernel
theorem dX8_rises_50 : decode cX8_rises 50 = .ok (.aload_n 0, 1) := by decide +kernel
theorem dX8_rises_51 : decode cX8_rises 51 = .ok (.getfield 19, 3) := by decide +kernel
theorem dX8_rises_54 : decode cX8_rises 54 = .ok (.putfield 108, 3) := by decide +kernel
theorem dX8_rises_57 : decode cX8_rises 57 = .ok (.aload_n 0, 1) := by decide +kernel
theorem dX8_rises_58 : decode cX8_rises 58 = .ok (.getfield 19, 3) := by decide +kernel
theorem dX8_rises_61 : decode cX8_rises 61 = .ok (.iload 5, 2) := by decide +kernel
theorem dX8_rises_63 : decode cX8_rises 63 = .ok (.if_icmp .lt 7, 3) := by decide +kernel
theorem dX8_rises_66 : decode cX8_rises 66 = .ok (.iconst 1, 1) := by decide +kernel
theorem dX8_rises_67 : decode cX8_rises 67 = .ok (.goto 4, 3) := by decide +kernel
theorem dX8_rises_70 : decode cX8_rises 70 = .ok (.iconst 0, 1) := by decide +kernel
theorem dX8_rises_71 : decode cX8_rises 71 = .ok (.ireturn, 1) := by decide +kernel
theorem dX8_byOf_0 : decode cX8_byOf 0 = .ok (.aload_n 0, 1) := by decide +kernel
theorem dX8_byOf_1 : decode cX8_byOf 1 = .ok (.invokevirtual 332, 3) := by decide +kernel
theorem dX8_byOf_4 : decode cX8_byOf 4 = .ok (.iload_n 1, 1) := by decide +kernel
theorem dX8_byOf_5 : decode cX8_byOf 5 = .ok (.ifCond .lt 34, 3) := by decide +kernel
theorem dX8_byOf_8 : decode cX8_byOf 8 = .ok (.aload_n 0, 1) := by decide +kernel
theorem dX8_byOf_9 : decode cX8_byOf 9 = .ok (.aload_n 0, 1) := by decide +kernel
theorem dX8_byOf_10 : decode cX8_byOf 10 = .ok (.getfield 35, 3) := by decide +kernel
theorem dX8_byOf_13 : decode cX8_byOf 13 = .ok (.iload_n 1, 1) := by decide +kernel
theorem dX8_byOf_14 : decode cX8_byOf 14 = .ok (.iaload, 1) := by decide +kernel
theorem dX8_byOf_15 : decode cX8_byOf 15 = .ok (.iload_n 3, 1) := by decide +kernel
theorem dX8_byOf_16 : decode cX8_byOf 16 = .ok (.invokevirtual 329, 3) := by decide +kernel
theorem dX8_byOf_19 : decode cX8_byOf 19 = .ok (.ifCond .eq 24, 3) := by decide +kernel
theorem dX8_byOf_22 : decode cX8_byOf 22 = .ok (.aload_n 0, 1) := by decide +kernel
theorem dX8_byOf_23 : decode cX8_byOf 23 = .ok (.iload_n 1, 1) := by decide +kernel
theorem dX8_byOf_24 : decode cX8_byOf 24 = .ok (.aload_n 0, 1) := by decide +kernel
theorem dX8_byOf_25 : decode cX8_byOf 25 = .ok (.getfield 35, 3) := by decide +kernel
theorem dX8_byOf_28 : decode cX8_byOf 28 = .ok (.iload_n 2, 1) := by decide +kernel
theorem dX8_byOf_29 : decode cX8_byOf 29 = .ok (.iaload, 1) := by decide +kernel
theorem dX8_byOf_30 : decode cX8_byOf 30 = .ok (.iload_n 3, 1) := by decide +kernel
theorem dX8_byOf_31 : decode cX8_byOf 31 = .ok (.bipush 40, 2) := by decide +kernel
theorem dX8_byOf_33 : decode cX8_byOf 33 = .ok (.invokevirtual 344, 3) := by decide +kernel
theorem dX8_byOf_36 : decode cX8_byOf 36 = .ok (.ifCond .eq 7, 3) := by decide +kernel
theorem dX8_byOf_39 : decode cX8_byOf 39 = .ok (.iconst 1, 1) := by decide +kernel
theorem dX8_byOf_40 : decode cX8_byOf 40 = .ok (.goto 4, 3) := by decide +kernel
theorem dX8_byOf_43 : decode cX8_byOf 43 = .ok (.iconst 0, 1) := by decide +kernel
theorem dX8_byOf_44 : decode cX8_byOf 44 = .ok (.istore 4, 2) := by decide +kernel
theorem dX8_byOf_46 : decode cX8_byOf 46 = .ok (.iload 4, 2) := by decide +kernel
theorem dX8_byOf_48 : decode cX8_byOf 48 = .ok (.ifCond .eq 57, 3) := by decide +kernel
theorem dX8_byOf_51 : decode cX8_byOf 51 = .ok (.aload_n 0, 1) := by decide +kernel
theorem dX8_byOf_52 : decode cX8_byOf 52 = .ok (.aload_n 0, 1) := by decide +kernel
theorem dX8_byOf_53 : decode cX8_byOf 53 = .ok (.getfield 35, 3) := by decide +kernel
theorem dX8_byOf_56 : decode cX8_byOf 56 = .ok (.iload_n 2, 1) := by decide +kernel
theorem dX8_byOf_57 : decode cX8_byOf 57 = .ok (.iaload, 1) := by decide +kernel
theorem dX8_byOf_58 : decode cX8_byOf 58 = .ok (.iload_n 3, 1) := by decide +kernel
theorem dX8_byOf_59 : decode cX8_byOf 59 = .ok (.invokevirtual 329, 3) := by decide +kernel
theorem dX8_byOf_62 : decode cX8_byOf 62 = .ok (.ifCond .eq 43, 3) := by decide +kernel
theorem dX8_byOf_65 : decode cX8_byOf 65 = .ok (.aload_n 0, 1) := by decide +kernel
theorem dX8_byOf_66 : decode cX8_byOf 66 = .ok (.iload_n 2, 1) := by decide +kernel
theorem dX8_byOf_67 : decode cX8_byOf 67 = .ok (.aload_n 0, 1) := by decide +kernel
theorem dX8_byOf_68 : decode cX8_byOf 68 = .ok (.getfield 25, 3) := by decide +kernel
theorem dX8_byOf_71 : decode cX8_byOf 71 = .ok (.iload_n 3, 1) := by decide +kernel
theorem dX8_byOf_72 : decode cX8_byOf 72 = .ok (.iload_n 1, 1) := by decide +kernel
theorem dX8_byOf_73 : decode cX8_byOf 73 = .ok (.ifCond .ge 8, 3) := by decide +kernel
theorem dX8_byOf_76 : decode cX8_byOf 76 = .ok (.bipush 60, 2) := by decide +kernel
theorem dX8_byOf_78 : decode cX8_byOf 78 = .ok (.goto 5, 3) := by decide +kernel
theorem dX8_byOf_81 : decode cX8_byOf 81 = .ok (.bipush 40, 2) := by decide +kernel
theorem dX8_byOf_83 : decode cX8_byOf 83 = .ok (.invokevirtual 344, 3) := by decide +kernel
theorem dX8_byOf_86 : decode cX8_byOf 86 = .ok (.ifCond .eq 19, 3) := by decide +kernel
theorem dX8_byOf_89 : decode cX8_byOf 89 = .ok (.aload_n 0, 1) := by decide +kernel
theorem dX8_byOf_90 : decode cX8_byOf 90 = .ok (.aload_n 0, 1) := by decide +kernel
theorem dX8_byOf_91 : decode cX8_byOf 91 = .ok (.getfield 25, 3) := by decide +kernel
theorem dX8_byOf_94 : decode cX8_byOf 94 = .ok (.iload_n 3, 1) := by decide +kernel
theorem dX8_byOf_95 : decode cX8_byOf 95 = .ok (.invokevirtual 329, 3) := by decide +kernel
theorem dX8_byOf_98 : decode cX8_byOf 98 = .ok (.ifCond .eq 7, 3) := by decide +kernel
theorem dX8_byOf_101 : decode cX8_byOf 101 = .ok (.iconst 1, 1) := by decide +kernel
theorem dX8_byOf_102 : decode cX8_byOf 102 = .ok (.goto 4, 3) := by decide +kernel
theorem dX8_byOf_105 : decode cX8_byOf 105 = .ok (.iconst 0, 1) := by decide +kernel
theorem dX8_byOf_106 : decode cX8_byOf 106 = .ok (.istore 4, 2) := by decide +kernel
theorem dX8_byOf_108 : decode cX8_byOf 108 = .ok (.aload_n 0, 1) := by decide +kernel
theorem dX8_byOf_109 : decode cX8_byOf 109 = .ok (.getfield 13, 3) := by decide +kernel
theorem dX8_byOf_112 : decode cX8_byOf 112 = .ok (.aload_n 0, 1) := by decide +kernel
theorem dX8_byOf_113 : decode cX8_byOf 113 = .ok (.getfield 99, 3) := by decide +kernel
theorem dX8_byOf_116 : decode cX8_byOf 116 = .ok (.isub, 1) := by decide +kernel
theorem dX8_byOf_117 : decode cX8_byOf 117 = .ok (.istore 5, 2) := by decide +kernel
theorem dX8_byOf_119 : decode cX8_byOf 119 = .ok (.aload_n 0, 1) := by decide +kernel
theorem dX8_byOf_120 : decode cX8_byOf 120 = .ok (.invokevirtual 335, 3) := by decide +kernel
theorem dX8_byOf_123 : decode cX8_byOf 123 = .ok (.iload 4, 2) := by decide +kernel
theorem dX8_byOf_125 : decode cX8_byOf 125 = .ok (.ifCond .eq 8, 3) := by decide +kernel
theorem dX8_byOf_128 : decode cX8_byOf 128 = .ok (.iload 5, 2) := by decide +kernel
theorem dX8_byOf_130 : decode cX8_byOf 130 = .ok (.goto 5, 3) := by decide +kernel
theorem dX8_byOf_133 : decode cX8_byOf 133 = .ok (.bipush (-5), 2) := by decide +kernel
theorem dX8_byOf_135 : decode cX8_byOf 135 = .ok (.ireturn, 1) := by decide +kernel
theorem dX8_by_0 : decode cX8_by 0 = .ok (.aload_n 0, 1) := by decide +kernel
theorem dX8_by_1 : decode cX8_by 1 = .ok (.iload_n 1, 1) := by decide +kernel
theorem dX8_by_2 : decode cX8_by 2 = .ok (.invokevirtual 235, 3) := by decide +kernel
theorem dX8_by_5 : decode cX8_by 5 = .ok (.ifCond .eq 13, 3) := by decide +kernel
theorem dX8_by_8 : decode cX8_by 8 = .ok (.aload_n 0, 1) := by decide +kernel
theorem dX8_by_9 : decode cX8_by 9 = .ok (.iload_n 3, 1) := by decide +kernel
theorem dX8_by_10 : decode cX8_by 10 = .ok (.iconst 0, 1) := by decide +kernel
theorem dX8_by_11 : decode cX8_by 11 = .ok (.iconst 1, 1) := by decide +kernel
theorem dX8_by_12 : decode cX8_by 12 = .ok (.invokevirtual 227, 3) := by decide +kernel
theorem dX8_by_15 : decode cX8_by 15 = .ok (.ifCond .ne 5, 3) := by decide +kernel
theorem dX8_by_18 : decode cX8_by 18 = .ok (.iconst (-1), 1) := by decide +kernel
theorem dX8_by_19 : decode cX8_by 19 = .ok (.ireturn, 1) := by decide +kernel
theorem dX8_by_20 : decode cX8_by 20 = .ok (.aload_n 0, 1) := by decide +kernel
theorem dX8_by_21 : decode cX8_by 21 = .ok (.iload_n 2, 1) := by decide +kernel
theorem dX8_by_22 : decode cX8_by 22 = .ok (.invokevirtual 326, 3) := by decide +kernel
theorem dX8_by_25 : decode cX8_by 25 = .ok (.ifCond .ne 6, 3) := by decide +kernel
theorem dX8_by_28 : decode cX8_by 28 = .ok (.bipush (-2), 2) := by decide +kernel
theorem dX8_by_30 : decode cX8_by 30 = .ok (.ireturn, 1) := by decide +kernel
theorem dX8_by_31 : decode cX8_by 31 = .ok (.aload_n 0, 1) := by decide +kernel
theorem dX8_by_32 : decode cX8_by 32 = .ok (.iconst (-1), 1) := by decide +kernel
theorem dX8_by_33 : decode cX8_by 33 = .ok (.iload_n 1, 1) := by decide +kernel
theorem dX8_by_34 : decode cX8_by 34 = .ok (.iload_n 2, 1) := by decide +kernel
theorem dX8_by_35 : decode cX8_by 35 = .ok (.invokevirtual 348, 3) := by decide +kernel
theorem dX8_by_38 : decode cX8_by 38 = .ok (.istore 4, 2) := by decide +kernel
theorem dX8_by_40 : decode cX8_by 40 = .ok (.iload 4, 2) := by decide +kernel
theorem dX8_by_42 : decode cX8_by 42 = .ok (.ifCond .lt 7, 3) := by decide +kernel
theorem dX8_by_45 : decode cX8_by 45 = .ok (.iload_n 3, 1) := by decide +kernel
theorem dX8_by_46 : decode cX8_by 46 = .ok (.ifCond .ne 8, 3) := by decide +kernel
theorem dX8_by_49 : decode cX8_by 49 = .ok (.iload 4, 2) := by decide +kernel
theorem dX8_by_51 : decode cX8_by 51 = .ok (.goto 7, 3) := by decide +kernel
theorem dX8_by_54 : decode cX8_by 54 = .ok (.aload_n 0, 1) := by decide +kernel
theorem dX8_by_55 : decode cX8_by 55 = .ok (.getfield 108, 3) := by decide +kernel
theorem dX8_by_58 : decode cX8_by 58 = .ok (.ireturn, 1) := by decide +kernel
theorem dX8_straightOf_0 : decode cX8_straightOf 0 = .ok (.aload_n 0, 1) := by decide +kernel
theorem dX8_straightOf_1 : decode cX8_straightOf 1 = .ok (.getfield 19, 3) := by decide +kernel
theorem dX8_straightOf_4 : decode cX8_straightOf 4 = .ok (.aload_n 0, 1) := by decide +kernel
theorem dX8_straightOf_5 : decode cX8_straightOf 5 = .ok (.aload_n 0, 1) := by decide +kernel
theorem dX8_straightOf_6 : decode cX8_straightOf 6 = .ok (.getfield 16, 3) := by decide +kernel
theorem dX8_straightOf_9 : decode cX8_straightOf 9 = .ok (.aload_n 0, 1) := by decide +kernel
theorem dX8_straightOf_10 : decode cX8_straightOf 10 = .ok (.getfield 25, 3) := by decide +kernel
theorem dX8_straightOf_13 : decode cX8_straightOf 13 = .ok (.iload_n 1, 1) := by decide +kernel
theorem dX8_straightOf_14 : decode cX8_straightOf 14 = .ok (.invokevirtual 316, 3) := by decide +kernel
theorem dX8_straightOf_17 : decode cX8_straightOf 17 = .ok (.isub, 1) := by decide +kernel
theorem dX8_straightOf_18 : decode cX8_straightOf 18 = .ok (.istore_n 2, 1) := by decide +kernel
theorem dX8_straightOf_19 : decode cX8_straightOf 19 = .ok (.iload_n 2, 1) := by decide +kernel
theorem dX8_straightOf_20 : decode cX8_straightOf 20 = .ok (.ifCond .lt 11, 3) := by decide +kernel
theorem dX8_straightOf_23 : decode cX8_straightOf 23 = .ok (.iload_n 2, 1) := by decide +kernel
theorem dX8_straightOf_24 : decode cX8_straightOf 24 = .ok (.aload_n 0, 1) := by decide +kernel
theorem dX8_straightOf_25 : decode cX8_straightOf 25 = .ok (.invokevirtual 310, 3) := by decide +kernel
theorem dX8_straightOf_28 : decode cX8_straightOf 28 = .ok (.if_icmp .ge 8, 3) := by decide +kernel
theorem dX8_straightOf_31 : decode cX8_straightOf 31 = .ok (.bipush (-5), 2) := by decide +kernel
theorem dX8_straightOf_33 : decode cX8_straightOf 33 = .ok (.goto 20, 3) := by decide +kernel
theorem dX8_straightOf_36 : decode cX8_straightOf 36 = .ok (.aload_n 0, 1) := by decide +kernel
theorem dX8_straightOf_37 : decode cX8_straightOf 37 = .ok (.aload_n 0, 1) := by decide +kernel
theorem dX8_straightOf_38 : decode cX8_straightOf 38 = .ok (.getfield 16, 3) := by decide +kernel
theorem dX8_straightOf_41 : decode cX8_straightOf 41 = .ok (.aload_n 0, 1) := by decide +kernel
theorem dX8_straightOf_42 : decode cX8_straightOf 42 = .ok (.getfield 25, 3) := by decide +kernel
theorem dX8_straightOf_45 : decode cX8_straightOf 45 = .ok (.invokevirtual 313, 3) := by decide +kernel
theorem dX8_straightOf_48 : decode cX8_straightOf 48 = .ok (.bipush 10, 2) := by decide +kernel
theorem dX8_straightOf_50 : decode cX8_straightOf 50 = .ok (.iload_n 1, 1) := by decide +kernel
theorem dX8_straightOf_51 : decode cX8_straightOf 51 = .ok (.isub, 1) := by decide +kernel
theorem dX8_straightOf_52 : decode cX8_straightOf 52 = .ok (.imul, 1) := by decide +kernel
theorem dX8_straightOf_53 : decode cX8_straightOf 53 = .ok (.ireturn, 1) := by decide +kernel
theorem dX8_straight_0 : decode cX8_straight 0 = .ok (.aload_n 0, 1) := by decide +kernel
theorem dX8_straight_1 : decode cX8_straight 1 = .ok (.iload_n 1, 1) := by decide +kernel
theorem dX8_straight_2 : decode cX8_straight 2 = .ok (.invokevirtual 326, 3) := by decide +kernel
theorem dX8_straight_5 : decode cX8_straight 5 = .ok (.ifCond .eq 11, 3) := by decide +kernel
theorem dX8_straight_8 : decode cX8_straight 8 = .ok (.aload_n 0, 1) := by decide +kernel
theorem dX8_straight_9 : decode cX8_straight 9 = .ok (.iload_n 1, 1) := by decide +kernel
theorem dX8_straight_10 : decode cX8_straight 10 = .ok (.invokevirtual 351, 3) := by decide +kernel
theorem dX8_straight_13 : decode cX8_straight 13 = .ok (.goto 5, 3) := by decide +kernel
theorem dX8_straight_16 : decode cX8_straight 16 = .ok (.bipush (-2), 2) := by decide +kernel
theorem dX8_straight_18 : decode cX8_straight 18 = .ok (.ireturn, 1) := by decide +kernel
theorem dX8_takesBest_0 : decode cX8_takesBest 0 = .ok (.iload_n 3, 1) := by decide +kernel
theorem dX8_takesBest_1 : decode cX8_takesBest 1 = .ok (.ifCond .lt 18, 3) := by decide +kernel
theorem dX8_takesBest_4 : decode cX8_takesBest 4 = .ok (.aload_n 0, 1) := by decide +kernel
theorem dX8_takesBest_5 : decode cX8_takesBest 5 = .ok (.getfield 117, 3) := by decide +kernel
theorem dX8_takesBest_8 : decode cX8_takesBest 8 = .ok (.ifCond .lt 12, 3) := by decide +kernel
theorem dX8_takesBest_11 : decode cX8_takesBest 11 = .ok (.iload_n 3, 1) := by decide +kernel
theorem dX8_takesBest_12 : decode cX8_takesBest 12 = .ok (.aload_n 0, 1) := by decide +kernel
theorem dX8_takesBest_13 : decode cX8_takesBest 13 = .ok (.getfield 117, 3) := by decide +kernel
theorem dX8_takesBest_16 : decode cX8_takesBest 16 = .ok (.if_icmp .lt 4, 3) := by decide +kernel
theorem dX8_takesBest_19 : decode cX8_takesBest 19 = .ok (.return_, 1) := by decide +kernel
theorem dX8_takesBest_20 : decode cX8_takesBest 20 = .ok (.aload_n 0, 1) := by decide +kernel
theorem dX8_takesBest_21 : decode cX8_takesBest 21 = .ok (.iload_n 1, 1) := by decide +kernel
theorem dX8_takesBest_22 : decode cX8_takesBest 22 = .ok (.putfield 111, 3) := by decide +kernel
theorem dX8_takesBest_25 : decode cX8_takesBest 25 = .ok (.aload_n 0, 1) := by decide +kernel
theorem dX8_takesBest_26 : decode cX8_takesBest 26 = .ok (.iload_n 2, 1) := by decide +kernel
theorem dX8_takesBest_27 : decode cX8_takesBest 27 = .ok (.putfield 114, 3) := by decide +kernel
theorem dX8_takesBest_30 : decode cX8_takesBest 30 = .ok (.aload_n 0, 1) := by decide +kernel
theorem dX8_takesBest_31 : decode cX8_takesBest 31 = .ok (.iload_n 3, 1) := by decide +kernel
theorem dX8_takesBest_32 : decode cX8_takesBest 32 = .ok (.putfield 117, 3) := by decide +kernel
theorem dX8_takesBest_35 : decode cX8_takesBest 35 = .ok (.return_, 1) := by decide +kernel
theorem dX8_layBest_0 : decode cX8_layBest 0 = .ok (.aload_n 0, 1) := by decide +kernel
theorem dX8_layBest_1 : decode cX8_layBest 1 = .ok (.bipush (-5), 2) := by decide +kernel
theorem dX8_layBest_3 : decode cX8_layBest 3 = .ok (.putfield 111, 3) := by decide +kernel
theorem dX8_layBest_6 : decode cX8_layBest 6 = .ok (.aload_n 0, 1) := by decide +kernel
theorem dX8_layBest_7 : decode cX8_layBest 7 = .ok (.bipush (-5), 2) := by decide +kernel
theorem dX8_layBest_9 : decode cX8_layBest 9 = .ok (.putfield 114, 3) := by decide +kernel
theorem dX8_layBest_12 : decode cX8_layBest 12 = .ok (.aload_n 0, 1) := by decide +kernel
theorem dX8_layBest_13 : decode cX8_layBest 13 = .ok (.bipush (-5), 2) := by decide +kernel
theorem dX8_layBest_15 : decode cX8_layBest 15 = .ok (.putfield 117, 3) := by decide +kernel
theorem dX8_layBest_18 : decode cX8_layBest 18 = .ok (.iconst 1, 1) := by decide +kernel
theorem dX8_layBest_19 : decode cX8_layBest 19 = .ok (.istore_n 2, 1) := by decide +kernel
theorem dX8_layBest_20 : decode cX8_layBest 20 = .ok (.iload_n 2, 1) := by decide +kernel
theorem dX8_layBest_21 : decode cX8_layBest 21 = .ok (.bipush 10, 2) := by decide +kernel
theorem dX8_layBest_23 : decode cX8_layBest 23 = .ok (.if_icmp .ge 20, 3) := by decide +kernel
theorem dX8_layBest_26 : decode cX8_layBest 26 = .ok (.aload_n 0, 1) := by decide +kernel
theorem dX8_layBest_27 : decode cX8_layBest 27 = .ok (.iconst (-1), 1) := by decide +kernel
theorem dX8_layBest_28 : decode cX8_layBest 28 = .ok (.iload_n 2, 1) := by decide +kernel
theorem dX8_layBest_29 : decode cX8_layBest 29 = .ok (.aload_n 0, 1) := by decide +kernel
theorem dX8_layBest_30 : decode cX8_layBest 30 = .ok (.iload_n 2, 1) := by decide +kernel
theorem dX8_layBest_31 : decode cX8_layBest 31 = .ok (.invokevirtual 351, 3) := by decide +kernel
theorem dX8_layBest_34 : decode cX8_layBest 34 = .ok (.invokevirtual 354, 3) := by decide +kernel
theorem dX8_layBest_37 : decode cX8_layBest 37 = .ok (.iinc 2 1, 3) := by decide +kernel
theorem dX8_layBest_40 : decode cX8_layBest 40 = .ok (.goto (-20), 3) := by decide +kernel
theorem dX8_layBest_43 : decode cX8_layBest 43 = .ok (.iconst 0, 1) := by decide +kernel
theorem dX8_layBest_44 : decode cX8_layBest 44 = .ok (.istore_n 2, 1) := by decide +kernel
theorem dX8_layBest_45 : decode cX8_layBest 45 = .ok (.iload_n 2, 1) := by decide +kernel
theorem dX8_layBest_46 : decode cX8_layBest 46 = .ok (.aload_n 0, 1) := by decide +kernel
theorem dX8_layBest_47 : decode cX8_layBest 47 = .ok (.getfield 7, 3) := by decide +kernel
theorem dX8_layBest_50 : decode cX8_layBest 50 = .ok (.if_icmp .ge 41, 3) := by decide +kernel
theorem dX8_layBest_53 : decode cX8_layBest 53 = .ok (.iconst 1, 1) := by decide +kernel
theorem dX8_layBest_54 : decode cX8_layBest 54 = .ok (.istore_n 3, 1) := by decide +kernel
theorem dX8_layBest_55 : decode cX8_layBest 55 = .ok (.iload_n 3, 1) := by decide +kernel
theorem dX8_layBest_56 : decode cX8_layBest 56 = .ok (.bipush 10, 2) := by decide +kernel
theorem dX8_layBest_58 : decode cX8_layBest 58 = .ok (.if_icmp .ge 27, 3) := by decide +kernel
theorem dX8_layBest_61 : decode cX8_layBest 61 = .ok (.iload_n 2, 1) := by decide +kernel
theorem dX8_layBest_62 : decode cX8_layBest 62 = .ok (.iload_n 1, 1) := by decide +kernel
theorem dX8_layBest_63 : decode cX8_layBest 63 = .ok (.if_icmp .eq 22, 3) := by decide +kernel
theorem dX8_layBest_66 : decode cX8_layBest 66 = .ok (.aload_n 0, 1) := by decide +kernel
theorem dX8_layBest_67 : decode cX8_layBest 67 = .ok (.iload_n 2, 1) := by decide +kernel
theorem dX8_layBest_68 : decode cX8_layBest 68 = .ok (.iload_n 3, 1) := by decide +kernel
theorem dX8_layBest_69 : decode cX8_layBest 69 = .ok (.aload_n 0, 1) := by decide +kernel
theorem dX8_layBest_70 : decode cX8_layBest 70 = .ok (.iconst (-1), 1) := by decide +kernel
theorem dX8_layBest_71 : decode cX8_layBest 71 = .ok (.iload_n 2, 1) := by decide +kernel
theorem dX8_layBest_72 : decode cX8_layBest 72 = .ok (.iload_n 3, 1) := by decide +kernel
theorem dX8_layBest_73 : decode cX8_layBest 73 = .ok (.invokevirtual 348, 3) := by decide +kernel
theorem dX8_layBest_76 : decode cX8_layBest 76 = .ok (.invokevirtual 354, 3) := by decide +kernel
theorem dX8_layBest_79 : decode cX8_layBest 79 = .ok (.iinc 3 1, 3) := by decide +kernel
theorem dX8_layBest_82 : decode cX8_layBest 82 = .ok (.goto (-27), 3) := by decide +kernel
theorem dX8_layBest_85 : decode cX8_layBest 85 = .ok (.iinc 2 1, 3) := by decide +kernel
theorem dX8_layBest_88 : decode cX8_layBest 88 = .ok (.goto (-43), 3) := by decide +kernel
theorem dX8_layBest_91 : decode cX8_layBest 91 = .ok (.return_, 1) := by decide +kernel
theorem dX8_best_0 : decode cX8_best 0 = .ok (.aload_n 0, 1) := by decide +kernel
theorem dX8_best_1 : decode cX8_best 1 = .ok (.iload_n 1, 1) := by decide +kernel
theorem dX8_best_2 : decode cX8_best 2 = .ok (.iconst 0, 1) := by decide +kernel
theorem dX8_best_3 : decode cX8_best 3 = .ok (.iconst 2, 1) := by decide +kernel
theorem dX8_best_4 : decode cX8_best 4 = .ok (.invokevirtual 227, 3) := by decide +kernel
theorem dX8_best_7 : decode cX8_best 7 = .ok (.ifCond .ne 7, 3) := by decide +kernel
theorem dX8_best_10 : decode cX8_best 10 = .ok (.sipush (-1001), 3) := by decide +kernel
theorem dX8_best_13 : decode cX8_best 13 = .ok (.ireturn, 1) := by decide +kernel
theorem dX8_best_14 : decode cX8_best 14 = .ok (.aload_n 0, 1) := by decide +kernel
theorem dX8_best_15 : decode cX8_best 15 = .ok (.iconst (-1), 1) := by decide +kernel
theorem dX8_best_16 : decode cX8_best 16 = .ok (.invokevirtual 358, 3) := by decide +kernel
theorem dX8_best_19 : decode cX8_best 19 = .ok (.iload_n 1, 1) := by decide +kernel
theorem dX8_best_20 : decode cX8_best 20 = .ok (.ifCond .ne 10, 3) := by decide +kernel
theorem dX8_best_23 : decode cX8_best 23 = .ok (.aload_n 0, 1) := by decide +kernel
theorem dX8_best_24 : decode cX8_best 24 = .ok (.getfield 111, 3) := by decide +kernel
theorem dX8_best_27 : decode cX8_best 27 = .ok (.goto 19, 3) := by decide +kernel
theorem dX8_best_30 : decode cX8_best 30 = .ok (.iload_n 1, 1) := by decide +kernel
theorem dX8_best_31 : decode cX8_best 31 = .ok (.iconst 1, 1) := by decide +kernel
theorem dX8_best_32 : decode cX8_best 32 = .ok (.if_icmp .ne 10, 3) := by decide +kernel
theorem dX8_best_35 : decode cX8_best 35 = .ok (.aload_n 0, 1) := by decide +kernel
theorem dX8_best_36 : decode cX8_best 36 = .ok (.getfield 114, 3) := by decide +kernel
theorem dX8_best_39 : decode cX8_best 39 = .ok (.goto 7, 3) := by decide +kernel
theorem dX8_best_42 : decode cX8_best 42 = .ok (.aload_n 0, 1) := by decide +kernel
theorem dX8_best_43 : decode cX8_best 43 = .ok (.getfield 117, 3) := by decide +kernel
theorem dX8_best_46 : decode cX8_best 46 = .ok (.ireturn, 1) := by decide +kernel
theorem dX8_two_0 : decode cX8_two 0 = .ok (.aload_n 0, 1) := by decide +kernel
theorem dX8_two_1 : decode cX8_two 1 = .ok (.iload_n 2, 1) := by decide +kernel
theorem dX8_two_2 : decode cX8_two 2 = .ok (.iconst 0, 1) := by decide +kernel
theorem dX8_two_3 : decode cX8_two 3 = .ok (.iconst 1, 1) := by decide +kernel
theorem dX8_two_4 : decode cX8_two 4 = .ok (.invokevirtual 227, 3) := by decide +kernel
theorem dX8_two_7 : decode cX8_two 7 = .ok (.ifCond .ne 5, 3) := by decide +kernel
theorem dX8_two_10 : decode cX8_two 10 = .ok (.iconst (-1), 1) := by decide +kernel
theorem dX8_two_11 : decode cX8_two 11 = .ok (.ireturn, 1) := by decide +kernel
theorem dX8_two_12 : decode cX8_two 12 = .ok (.aload_n 0, 1) := by decide +kernel
theorem dX8_two_13 : decode cX8_two 13 = .ok (.iload_n 1, 1) := by decide +kernel
theorem dX8_two_14 : decode cX8_two 14 = .ok (.invokevirtual 326, 3) := by decide +kernel
theorem dX8_two_17 : decode cX8_two 17 = .ok (.ifCond .ne 6, 3) := by decide +kernel
theorem dX8_two_20 : decode cX8_two 20 = .ok (.bipush (-2), 2) := by decide +kernel
theorem dX8_two_22 : decode cX8_two 22 = .ok (.ireturn, 1) := by decide +kernel
theorem dX8_two_23 : decode cX8_two 23 = .ok (.bipush (-5), 2) := by decide +kernel
theorem dX8_two_25 : decode cX8_two 25 = .ok (.istore_n 3, 1) := by decide +kernel
theorem dX8_two_26 : decode cX8_two 26 = .ok (.bipush (-5), 2) := by decide +kernel
theorem dX8_two_28 : decode cX8_two 28 = .ok (.istore 4, 2) := by decide +kernel
theorem dX8_two_30 : decode cX8_two 30 = .ok (.iconst 0, 1) := by decide +kernel
theorem dX8_two_31 : decode cX8_two 31 = .ok (.istore 5, 2) := by decide +kernel
theorem dX8_two_33 : decode cX8_two 33 = .ok (.iload 5, 2) := by decide +kernel
theorem dX8_two_35 : decode cX8_two 35 = .ok (.aload_n 0, 1) := by decide +kernel
theorem dX8_two_36 : decode cX8_two 36 = .ok (.getfield 7, 3) := by decide +kernel
theorem dX8_two_39 : decode cX8_two 39 = .ok (.if_icmp .ge 82, 3) := by decide +kernel
theorem dX8_two_42 : decode cX8_two 42 = .ok (.iconst 0, 1) := by decide +kernel
theorem dX8_two_43 : decode cX8_two 43 = .ok (.istore 6, 2) := by decide +kernel
theorem dX8_two_45 : decode cX8_two 45 = .ok (.iload 6, 2) := by decide +kernel
theorem dX8_two_47 : decode cX8_two 47 = .ok (.aload_n 0, 1) := by decide +kernel
theorem dX8_two_48 : decode cX8_two 48 = .ok (.getfield 7, 3) := by decide +kernel
theorem dX8_two_51 : decode cX8_two 51 = .ok (.if_icmp .ge 64, 3) := by decide +kernel
theorem dX8_two_54 : decode cX8_two 54 = .ok (.iload 5, 2) := by decide +kernel
theorem dX8_two_56 : decode cX8_two 56 = .ok (.iload 6, 2) := by decide +kernel
theorem dX8_two_58 : decode cX8_two 58 = .ok (.if_icmp .ne 8, 3) := by decide +kernel
theorem dX8_two_61 : decode cX8_two 61 = .ok (.bipush (-5), 2) := by decide +kernel
theorem dX8_two_63 : decode cX8_two 63 = .ok (.goto 12, 3) := by decide +kernel
theorem dX8_two_66 : decode cX8_two 66 = .ok (.aload_n 0, 1) := by decide +kernel
theorem dX8_two_67 : decode cX8_two 67 = .ok (.iload 5, 2) := by decide +kernel
theorem dX8_two_69 : decode cX8_two 69 = .ok (.iload 6, 2) := by decide +kernel
theorem dX8_two_71 : decode cX8_two 71 = .ok (.iload_n 1, 1) := by decide +kernel
theorem dX8_two_72 : decode cX8_two 72 = .ok (.invokevirtual 348, 3) := by decide +kernel
theorem dX8_two_75 : decode cX8_two 75 = .ok (.istore 7, 2) := by decide +kernel
theorem dX8_two_77 : decode cX8_two 77 = .ok (.iload 7, 2) := by decide +kernel
theorem dX8_two_79 : decode cX8_two 79 = .ok (.ifCond .lt 30, 3) := by decide +kernel
theorem dX8_two_82 : decode cX8_two 82 = .ok (.iload_n 3, 1) := by decide +kernel
theorem dX8_two_83 : decode cX8_two 83 = .ok (.ifCond .lt 13, 3) := by decide +kernel
theorem dX8_two_86 : decode cX8_two 86 = .ok (.iload 7, 2) := by decide +kernel
theorem dX8_two_88 : decode cX8_two 88 = .ok (.iload 4, 2) := by decide +kernel
theorem dX8_two_90 : decode cX8_two 90 = .ok (.if_icmp .lt 6, 3) := by decide +kernel
theorem dX8_two_93 : decode cX8_two 93 = .ok (.goto 16, 3) := by decide +kernel
theorem dX8_two_96 : decode cX8_two 96 = .ok (.bipush 10, 2) := by decide +kernel
theorem dX8_two_98 : decode cX8_two 98 = .ok (.iload 5, 2) := by decide +kernel
theorem dX8_two_100 : decode cX8_two 100 = .ok (.imul, 1) := by decide +kernel
theorem dX8_two_101 : decode cX8_two 101 = .ok (.iload 6, 2) := by decide +kernel
theorem dX8_two_103 : decode cX8_two 103 = .ok (.iadd, 1) := by decide +kernel
theorem dX8_two_104 : decode cX8_two 104 = .ok (.istore_n 3, 1) := by decide +kernel
theorem dX8_two_105 : decode cX8_two 105 = .ok (.iload 7, 2) := by decide +kernel
theorem dX8_two_107 : decode cX8_two 107 = .ok (.istore 4, 2) := by decide +kernel
theorem dX8_two_109 : decode cX8_two 109 = .ok (.iinc 6 1, 3) := by decide +kernel
theorem dX8_two_112 : decode cX8_two 112 = .ok (.goto (-67), 3) := by decide +kernel
theorem dX8_two_115 : decode cX8_two 115 = .ok (.iinc 5 1, 3) := by decide +kernel
theorem dX8_two_118 : decode cX8_two 118 = .ok (.goto (-85), 3) := by decide +kernel
theorem dX8_two_121 : decode cX8_two 121 = .ok (.iload_n 2, 1) := by decide +kernel
theorem dX8_two_122 : decode cX8_two 122 = .ok (.ifCond .ne 7, 3) := by decide +kernel
theorem dX8_two_125 : decode cX8_two 125 = .ok (.iload_n 3, 1) := by decide +kernel
theorem dX8_two_126 : decode cX8_two 126 = .ok (.goto 5, 3) := by decide +kernel
theorem dX8_two_129 : decode cX8_two 129 = .ok (.iload 4, 2) := by decide +kernel
theorem dX8_two_131 : decode cX8_two 131 = .ok (.ireturn, 1) := by decide +kernel
theorem dX8_worth_0 : decode cX8_worth 0 = .ok (.aload_n 0, 1) := by decide +kernel
theorem dX8_worth_1 : decode cX8_worth 1 = .ok (.iload_n 1, 1) := by decide +kernel
theorem dX8_worth_2 : decode cX8_worth 2 = .ok (.invokevirtual 235, 3) := by decide +kernel
theorem dX8_worth_5 : decode cX8_worth 5 = .ok (.ifCond .ne 5, 3) := by decide +kernel
theorem dX8_worth_8 : decode cX8_worth 8 = .ok (.iconst (-1), 1) := by decide +kernel
theorem dX8_worth_9 : decode cX8_worth 9 = .ok (.ireturn, 1) := by decide +kernel
theorem dX8_worth_10 : decode cX8_worth 10 = .ok (.aload_n 0, 1) := by decide +kernel
theorem dX8_worth_11 : decode cX8_worth 11 = .ok (.iconst (-1), 1) := by decide +kernel
theorem dX8_worth_12 : decode cX8_worth 12 = .ok (.invokevirtual 358, 3) := by decide +kernel
theorem dX8_worth_15 : decode cX8_worth 15 = .ok (.aload_n 0, 1) := by decide +kernel
theorem dX8_worth_16 : decode cX8_worth 16 = .ok (.getfield 117, 3) := by decide +kernel
theorem dX8_worth_19 : decode cX8_worth 19 = .ok (.ifCond .ge 9, 3) := by decide +kernel
theorem dX8_worth_22 : decode cX8_worth 22 = .ok (.sipush 999, 3) := by decide +kernel
theorem dX8_worth_25 : decode cX8_worth 25 = .ok (.goto 7, 3) := by decide +kernel
theorem dX8_worth_28 : decode cX8_worth 28 = .ok (.aload_n 0, 1) := by decide +kernel
theorem dX8_worth_29 : decode cX8_worth 29 = .ok (.getfield 117, 3) := by decide +kernel
theorem dX8_worth_32 : decode cX8_worth 32 = .ok (.istore_n 2, 1) := by decide +kernel
theorem dX8_worth_33 : decode cX8_worth 33 = .ok (.aload_n 0, 1) := by decide +kernel
theorem dX8_worth_34 : decode cX8_worth 34 = .ok (.iload_n 1, 1) := by decide +kernel
theorem dX8_worth_35 : decode cX8_worth 35 = .ok (.invokevirtual 358, 3) := by decide +kernel
theorem dX8_worth_38 : decode cX8_worth 38 = .ok (.aload_n 0, 1) := by decide +kernel
theorem dX8_worth_39 : decode cX8_worth 39 = .ok (.getfield 117, 3) := by decide +kernel
theorem dX8_worth_42 : decode cX8_worth 42 = .ok (.ifCond .ge 9, 3) := by decide +kernel
theorem dX8_worth_45 : decode cX8_worth 45 = .ok (.sipush 999, 3) := by decide +kernel
theorem dX8_worth_48 : decode cX8_worth 48 = .ok (.goto 7, 3) := by decide +kernel
theorem dX8_worth_51 : decode cX8_worth 51 = .ok (.aload_n 0, 1) := by decide +kernel
theorem dX8_worth_52 : decode cX8_worth 52 = .ok (.getfield 117, 3) := by decide +kernel
theorem dX8_worth_55 : decode cX8_worth 55 = .ok (.iload_n 2, 1) := by decide +kernel
theorem dX8_worth_56 : decode cX8_worth 56 = .ok (.isub, 1) := by decide +kernel
theorem dX8_worth_57 : decode cX8_worth 57 = .ok (.ireturn, 1) := by decide +kernel
theorem dX8_leg_0 : decode cX8_leg 0 = .ok (.iload_n 1, 1) := by decide +kernel
theorem dX8_leg_1 : decode cX8_leg 1 = .ok (.iconst (-1), 1) := by decide +kernel
theorem dX8_leg_2 : decode cX8_leg 2 = .ok (.if_icmp .ne 10, 3) := by decide +kernel
theorem dX8_leg_5 : decode cX8_leg 5 = .ok (.aload_n 0, 1) := by decide +kernel
theorem dX8_leg_6 : decode cX8_leg 6 = .ok (.iconst 0, 1) := by decide +kernel
theorem dX8_leg_7 : decode cX8_leg 7 = .ok (.putfield 120, 3) := by decide +kernel
theorem dX8_leg_10 : decode cX8_leg 10 = .ok (.iconst 0, 1) := by decide +kernel
theorem dX8_leg_11 : decode cX8_leg 11 = .ok (.ireturn, 1) := by decide +kernel
theorem dX8_leg_12 : decode cX8_leg 12 = .ok (.aload_n 0, 1) := by decide +kernel
theorem dX8_leg_13 : decode cX8_leg 13 = .ok (.iload_n 1, 1) := by decide +kernel
theorem dX8_leg_14 : decode cX8_leg 14 = .ok (.invokevirtual 235, 3) := by decide +kernel
theorem dX8_leg_17 : decode cX8_leg 17 = .ok (.ifCond .ne 5, 3) := by decide +kernel
theorem dX8_leg_20 : decode cX8_leg 20 = .ok (.iconst (-1), 1) := by decide +kernel
theorem dX8_leg_21 : decode cX8_leg 21 = .ok (.ireturn, 1) := by decide +kernel
theorem dX8_leg_22 : decode cX8_leg 22 = .ok (.aload_n 0, 1) := by decide +kernel
theorem dX8_leg_23 : decode cX8_leg 23 = .ok (.iload_n 2, 1) := by decide +kernel
theorem dX8_leg_24 : decode cX8_leg 24 = .ok (.invokevirtual 320, 3) := by decide +kernel
theorem dX8_leg_27 : decode cX8_leg 27 = .ok (.ifCond .ne 6, 3) := by decide +kernel
theorem dX8_leg_30 : decode cX8_leg 30 = .ok (.bipush (-2), 2) := by decide +kernel
theorem dX8_leg_32 : decode cX8_leg 32 = .ok (.ireturn, 1) := by decide +kernel
theorem dX8_leg_33 : decode cX8_leg 33 = .ok (.aload_n 0, 1) := by decide +kernel
theorem dX8_leg_34 : decode cX8_leg 34 = .ok (.getfield 120, 3) := by decide +kernel
theorem dX8_leg_37 : decode cX8_leg 37 = .ok (.iconst 4, 1) := by decide +kernel
theorem dX8_leg_38 : decode cX8_leg 38 = .ok (.if_icmp .ne 6, 3) := by decide +kernel
theorem dX8_leg_41 : decode cX8_leg 41 = .ok (.bipush (-4), 2) := by decide +kernel
theorem dX8_leg_43 : decode cX8_leg 43 = .ok (.ireturn, 1) := by decide +kernel
theorem dX8_leg_44 : decode cX8_leg 44 = .ok (.aload_n 0, 1) := by decide +kernel
theorem dX8_leg_45 : decode cX8_leg 45 = .ok (.getfield 123, 3) := by decide +kernel
theorem dX8_leg_48 : decode cX8_leg 48 = .ok (.aload_n 0, 1) := by decide +kernel
theorem dX8_leg_49 : decode cX8_leg 49 = .ok (.getfield 120, 3) := by decide +kernel
theorem dX8_leg_52 : decode cX8_leg 52 = .ok (.iload_n 1, 1) := by decide +kernel
theorem dX8_leg_53 : decode cX8_leg 53 = .ok (.iastore, 1) := by decide +kernel
theorem dX8_leg_54 : decode cX8_leg 54 = .ok (.aload_n 0, 1) := by decide +kernel
theorem dX8_leg_55 : decode cX8_leg 55 = .ok (.getfield 126, 3) := by decide +kernel
theorem dX8_leg_58 : decode cX8_leg 58 = .ok (.aload_n 0, 1) := by decide +kernel
theorem dX8_leg_59 : decode cX8_leg 59 = .ok (.getfield 120, 3) := by decide +kernel
theorem dX8_leg_62 : decode cX8_leg 62 = .ok (.iload_n 2, 1) := by decide +kernel
theorem dX8_leg_63 : decode cX8_leg 63 = .ok (.iastore, 1) := by decide +kernel
theorem dX8_leg_64 : decode cX8_leg 64 = .ok (.aload_n 0, 1) := by decide +kernel
theorem dX8_leg_65 : decode cX8_leg 65 = .ok (.dup, 1) := by decide +kernel
theorem dX8_leg_66 : decode cX8_leg 66 = .ok (.getfield 120, 3) := by decide +kernel
theorem dX8_leg_69 : decode cX8_leg 69 = .ok (.iconst 1, 1) := by decide +kernel
theorem dX8_leg_70 : decode cX8_leg 70 = .ok (.iadd, 1) := by decide +kernel
theorem dX8_leg_71 : decode cX8_leg 71 = .ok (.putfield 120, 3) := by decide +kernel
theorem dX8_leg_74 : decode cX8_leg 74 = .ok (.aload_n 0, 1) := by decide +kernel
theorem dX8_leg_75 : decode cX8_leg 75 = .ok (.getfield 120, 3) := by decide +kernel
theorem dX8_leg_78 : decode cX8_leg 78 = .ok (.ireturn, 1) := by decide +kernel
theorem dX8_flown_0 : decode cX8_flown 0 = .ok (.aload_n 0, 1) := by decide +kernel
theorem dX8_flown_1 : decode cX8_flown 1 = .ok (.iload_n 2, 1) := by decide +kernel
theorem dX8_flown_2 : decode cX8_flown 2 = .ok (.iconst 0, 1) := by decide +kernel
theorem dX8_flown_3 : decode cX8_flown 3 = .ok (.iconst 1, 1) := by decide +kernel
theorem dX8_flown_4 : decode cX8_flown 4 = .ok (.invokevirtual 227, 3) := by decide +kernel
theorem dX8_flown_7 : decode cX8_flown 7 = .ok (.ifCond .ne 5, 3) := by decide +kernel
theorem dX8_flown_10 : decode cX8_flown 10 = .ok (.iconst (-1), 1) := by decide +kernel
theorem dX8_flown_11 : decode cX8_flown 11 = .ok (.ireturn, 1) := by decide +kernel
theorem dX8_flown_12 : decode cX8_flown 12 = .ok (.aload_n 0, 1) := by decide +kernel
theorem dX8_flown_13 : decode cX8_flown 13 = .ok (.iload_n 1, 1) := by decide +kernel
theorem dX8_flown_14 : decode cX8_flown 14 = .ok (.invokevirtual 326, 3) := by decide +kernel
theorem dX8_flown_17 : decode cX8_flown 17 = .ok (.ifCond .ne 6, 3) := by decide +kernel
theorem dX8_flown_20 : decode cX8_flown 20 = .ok (.bipush (-2), 2) := by decide +kernel
theorem dX8_flown_22 : decode cX8_flown 22 = .ok (.ireturn, 1) := by decide +kernel
theorem dX8_flown_23 : decode cX8_flown 23 = .ok (.aload_n 0, 1) := by decide +kernel
theorem dX8_flown_24 : decode cX8_flown 24 = .ok (.invokevirtual 332, 3) := by decide +kernel
theorem dX8_flown_27 : decode cX8_flown 27 = .ok (.iconst 1, 1) := by decide +kernel
theorem dX8_flown_28 : decode cX8_flown 28 = .ok (.istore_n 3, 1) := by decide +kernel
theorem dX8_flown_29 : decode cX8_flown 29 = .ok (.iconst 0, 1) := by decide +kernel
theorem dX8_flown_30 : decode cX8_flown 30 = .ok (.istore 4, 2) := by decide +kernel
theorem dX8_flown_32 : decode cX8_flown 32 = .ok (.iload 4, 2) := by decide +kernel
theorem dX8_flown_34 : decode cX8_flown 34 = .ok (.aload_n 0, 1) := by decide +kernel
theorem dX8_flown_35 : decode cX8_flown 35 = .ok (.getfield 120, 3) := by decide +kernel
theorem dX8_flown_38 : decode cX8_flown 38 = .ok (.if_icmp .ge 67, 3) := by decide +kernel
theorem dX8_flown_41 : decode cX8_flown 41 = .ok (.iload_n 3, 1) := by decide +kernel
theorem dX8_flown_42 : decode cX8_flown 42 = .ok (.ifCond .eq 63, 3) := by decide +kernel
theorem dX8_flown_45 : decode cX8_flown 45 = .ok (.aload_n 0, 1) := by decide +kernel
theorem dX8_flown_46 : decode cX8_flown 46 = .ok (.aload_n 0, 1) := by decide +kernel
theorem dX8_flown_47 : decode cX8_flown 47 = .ok (.getfield 35, 3) := by decide +kernel
theorem dX8_flown_50 : decode cX8_flown 50 = .ok (.aload_n 0, 1) := by decide +kernel
theorem dX8_flown_51 : decode cX8_flown 51 = .ok (.getfield 123, 3) := by decide +kernel
theorem dX8_flown_54 : decode cX8_flown 54 = .ok (.iload 4, 2) := by decide +kernel
theorem dX8_flown_56 : decode cX8_flown 56 = .ok (.iaload, 1) := by decide +kernel
theorem dX8_flown_57 : decode cX8_flown 57 = .ok (.iaload, 1) := by decide +kernel
theorem dX8_flown_58 : decode cX8_flown 58 = .ok (.iload_n 1, 1) := by decide +kernel
theorem dX8_flown_59 : decode cX8_flown 59 = .ok (.invokevirtual 329, 3) := by decide +kernel
theorem dX8_flown_62 : decode cX8_flown 62 = .ok (.istore_n 3, 1) := by decide +kernel
theorem dX8_flown_63 : decode cX8_flown 63 = .ok (.iconst 0, 1) := by decide +kernel
theorem dX8_flown_64 : decode cX8_flown 64 = .ok (.istore 5, 2) := by decide +kernel
theorem dX8_flown_66 : decode cX8_flown 66 = .ok (.iload 5, 2) := by decide +kernel
theorem dX8_flown_68 : decode cX8_flown 68 = .ok (.aload_n 0, 1) := by decide +kernel
theorem dX8_flown_69 : decode cX8_flown 69 = .ok (.getfield 126, 3) := by decide +kernel
theorem dX8_flown_72 : decode cX8_flown 72 = .ok (.iload 4, 2) := by decide +kernel
theorem dX8_flown_74 : decode cX8_flown 74 = .ok (.iaload, 1) := by decide +kernel
theorem dX8_flown_75 : decode cX8_flown 75 = .ok (.if_icmp .ge 24, 3) := by decide +kernel
theorem dX8_flown_78 : decode cX8_flown 78 = .ok (.iload_n 3, 1) := by decide +kernel
theorem dX8_flown_79 : decode cX8_flown 79 = .ok (.ifCond .eq 20, 3) := by decide +kernel
theorem dX8_flown_82 : decode cX8_flown 82 = .ok (.aload_n 0, 1) := by decide +kernel
theorem dX8_flown_83 : decode cX8_flown 83 = .ok (.aload_n 0, 1) := by decide +kernel
theorem dX8_flown_84 : decode cX8_flown 84 = .ok (.getfield 123, 3) := by decide +kernel
theorem dX8_flown_87 : decode cX8_flown 87 = .ok (.iload 4, 2) := by decide +kernel
theorem dX8_flown_89 : decode cX8_flown 89 = .ok (.iaload, 1) := by decide +kernel
theorem dX8_flown_90 : decode cX8_flown 90 = .ok (.invokevirtual 323, 3) := by decide +kernel
theorem dX8_flown_93 : decode cX8_flown 93 = .ok (.iinc 5 1, 3) := by decide +kernel
theorem dX8_flown_96 : decode cX8_flown 96 = .ok (.goto (-30), 3) := by decide +kernel
theorem dX8_flown_99 : decode cX8_flown 99 = .ok (.iinc 4 1, 3) := by decide +kernel
theorem dX8_flown_102 : decode cX8_flown 102 = .ok (.goto (-70), 3) := by decide +kernel
theorem dX8_flown_105 : decode cX8_flown 105 = .ok (.iload_n 3, 1) := by decide +kernel
theorem dX8_flown_106 : decode cX8_flown 106 = .ok (.ifCond .eq 19, 3) := by decide +kernel
theorem dX8_flown_109 : decode cX8_flown 109 = .ok (.aload_n 0, 1) := by decide +kernel
theorem dX8_flown_110 : decode cX8_flown 110 = .ok (.aload_n 0, 1) := by decide +kernel
theorem dX8_flown_111 : decode cX8_flown 111 = .ok (.getfield 25, 3) := by decide +kernel
theorem dX8_flown_114 : decode cX8_flown 114 = .ok (.iload_n 1, 1) := by decide +kernel
theorem dX8_flown_115 : decode cX8_flown 115 = .ok (.invokevirtual 329, 3) := by decide +kernel
theorem dX8_flown_118 : decode cX8_flown 118 = .ok (.ifCond .eq 7, 3) := by decide +kernel
theorem dX8_flown_121 : decode cX8_flown 121 = .ok (.iconst 1, 1) := by decide +kernel
theorem dX8_flown_122 : decode cX8_flown 122 = .ok (.goto 4, 3) := by decide +kernel
theorem dX8_flown_125 : decode cX8_flown 125 = .ok (.iconst 0, 1) := by decide +kernel
theorem dX8_flown_126 : decode cX8_flown 126 = .ok (.istore_n 3, 1) := by decide +kernel
theorem dX8_flown_127 : decode cX8_flown 127 = .ok (.iload_n 2, 1) := by decide +kernel
theorem dX8_flown_128 : decode cX8_flown 128 = .ok (.ifCond .ne 10, 3) := by decide +kernel
theorem dX8_flown_131 : decode cX8_flown 131 = .ok (.aload_n 0, 1) := by decide +kernel
theorem dX8_flown_132 : decode cX8_flown 132 = .ok (.getfield 19, 3) := by decide +kernel
theorem dX8_flown_135 : decode cX8_flown 135 = .ok (.goto 12, 3) := by decide +kernel
theorem dX8_flown_138 : decode cX8_flown 138 = .ok (.aload_n 0, 1) := by decide +kernel
theorem dX8_flown_139 : decode cX8_flown 139 = .ok (.getfield 13, 3) := by decide +kernel
theorem dX8_flown_142 : decode cX8_flown 142 = .ok (.aload_n 0, 1) := by decide +kernel
theorem dX8_flown_143 : decode cX8_flown 143 = .ok (.getfield 99, 3) := by decide +kernel
theorem dX8_flown_146 : decode cX8_flown 146 = .ok (.isub, 1) := by decide +kernel
theorem dX8_flown_147 : decode cX8_flown 147 = .ok (.istore 4, 2) := by decide +kernel
theorem dX8_flown_149 : decode cX8_flown 149 = .ok (.aload_n 0, 1) := by decide +kernel
theorem dX8_flown_150 : decode cX8_flown 150 = .ok (.invokevirtual 335, 3) := by decide +kernel
theorem dX8_flown_153 : decode cX8_flown 153 = .ok (.iload_n 3, 1) := by decide +kernel
theorem dX8_flown_154 : decode cX8_flown 154 = .ok (.ifCond .eq 8, 3) := by decide +kernel
theorem dX8_flown_157 : decode cX8_flown 157 = .ok (.iload 4, 2) := by decide +kernel
theorem dX8_flown_159 : decode cX8_flown 159 = .ok (.goto 5, 3) := by decide +kernel
theorem dX8_flown_162 : decode cX8_flown 162 = .ok (.bipush (-5), 2) := by decide +kernel
theorem dX8_flown_164 : decode cX8_flown 164 = .ok (.ireturn, 1) := by decide +kernel
theorem dX8_see_0 : decode cX8_see 0 = .ok (.iload_n 1, 1) := by decide +kernel
theorem dX8_see_1 : decode cX8_see 1 = .ok (.bipush (-100), 2) := by decide +kernel
theorem dX8_see_3 : decode cX8_see 3 = .ok (.if_icmp .ne 10, 3) := by decide +kernel
theorem dX8_see_6 : decode cX8_see 6 = .ok (.aload_n 0, 1) := by decide +kernel
theorem dX8_see_7 : decode cX8_see 7 = .ok (.iconst 0, 1) := by decide +kernel
theorem dX8_see_8 : decode cX8_see 8 = .ok (.putfield 129, 3) := by decide +kernel
theorem dX8_see_11 : decode cX8_see 11 = .ok (.iconst 0, 1) := by decide +kernel
theorem dX8_see_12 : decode cX8_see 12 = .ok (.ireturn, 1) := by decide +kernel
theorem dX8_see_13 : decode cX8_see 13 = .ok (.aload_n 0, 1) := by decide +kernel
theorem dX8_see_14 : decode cX8_see 14 = .ok (.iload_n 1, 1) := by decide +kernel
theorem dX8_see_15 : decode cX8_see 15 = .ok (.bipush (-99), 2) := by decide +kernel
theorem dX8_see_17 : decode cX8_see 17 = .ok (.bipush 99, 2) := by decide +kernel
theorem dX8_see_19 : decode cX8_see 19 = .ok (.invokevirtual 227, 3) := by decide +kernel
theorem dX8_see_22 : decode cX8_see 22 = .ok (.ifCond .ne 6, 3) := by decide +kernel
theorem dX8_see_25 : decode cX8_see 25 = .ok (.bipush (-2), 2) := by decide +kernel
theorem dX8_see_27 : decode cX8_see 27 = .ok (.ireturn, 1) := by decide +kernel
theorem dX8_see_28 : decode cX8_see 28 = .ok (.aload_n 0, 1) := by decide +kernel
theorem dX8_see_29 : decode cX8_see 29 = .ok (.getfield 129, 3) := by decide +kernel
theorem dX8_see_32 : decode cX8_see 32 = .ok (.iconst 5, 1) := by decide +kernel
theorem dX8_see_33 : decode cX8_see 33 = .ok (.if_icmp .ne 6, 3) := by decide +kernel
theorem dX8_see_36 : decode cX8_see 36 = .ok (.bipush (-4), 2) := by decide +kernel
theorem dX8_see_38 : decode cX8_see 38 = .ok (.ireturn, 1) := by decide +kernel
theorem dX8_see_39 : decode cX8_see 39 = .ok (.aload_n 0, 1) := by decide +kernel
theorem dX8_see_40 : decode cX8_see 40 = .ok (.getfield 132, 3) := by decide +kernel
theorem dX8_see_43 : decode cX8_see 43 = .ok (.aload_n 0, 1) := by decide +kernel
theorem dX8_see_44 : decode cX8_see 44 = .ok (.getfield 129, 3) := by decide +kernel
theorem dX8_see_47 : decode cX8_see 47 = .ok (.iload_n 1, 1) := by decide +kernel
theorem dX8_see_48 : decode cX8_see 48 = .ok (.iastore, 1) := by decide +kernel
theorem dX8_see_49 : decode cX8_see 49 = .ok (.aload_n 0, 1) := by decide +kernel
theorem dX8_see_50 : decode cX8_see 50 = .ok (.dup, 1) := by decide +kernel
theorem dX8_see_51 : decode cX8_see 51 = .ok (.getfield 129, 3) := by decide +kernel
theorem dX8_see_54 : decode cX8_see 54 = .ok (.iconst 1, 1) := by decide +kernel
theorem dX8_see_55 : decode cX8_see 55 = .ok (.iadd, 1) := by decide +kernel
theorem dX8_see_56 : decode cX8_see 56 = .ok (.putfield 129, 3) := by decide +kernel
theorem dX8_see_59 : decode cX8_see 59 = .ok (.aload_n 0, 1) := by decide +kernel
theorem dX8_see_60 : decode cX8_see 60 = .ok (.getfield 129, 3) := by decide +kernel
theorem dX8_see_63 : decode cX8_see 63 = .ok (.ireturn, 1) := by decide +kernel
theorem dX8_isSeen_0 : decode cX8_isSeen 0 = .ok (.aload_n 0, 1) := by decide +kernel
theorem dX8_isSeen_1 : decode cX8_isSeen 1 = .ok (.invokevirtual 332, 3) := by decide +kernel
theorem dX8_isSeen_4 : decode cX8_isSeen 4 = .ok (.iconst 1, 1) := by decide +kernel
theorem dX8_isSeen_5 : decode cX8_isSeen 5 = .ok (.istore_n 2, 1) := by decide +kernel
theorem dX8_isSeen_6 : decode cX8_isSeen 6 = .ok (.iconst 0, 1) := by decide +kernel
theorem dX8_isSeen_7 : decode cX8_isSeen 7 = .ok (.istore_n 3, 1) := by decide +kernel
theorem dX8_isSeen_8 : decode cX8_isSeen 8 = .ok (.iload_n 3, 1) := by decide +kernel
theorem dX8_isSeen_9 : decode cX8_isSeen 9 = .ok (.aload_n 0, 1) := by decide +kernel
theorem dX8_isSeen_10 : decode cX8_isSeen 10 = .ok (.getfield 129, 3) := by decide +kernel
theorem dX8_isSeen_13 : decode cX8_isSeen 13 = .ok (.if_icmp .ge 46, 3) := by decide +kernel
theorem dX8_isSeen_16 : decode cX8_isSeen 16 = .ok (.iload_n 2, 1) := by decide +kernel
theorem dX8_isSeen_17 : decode cX8_isSeen 17 = .ok (.ifCond .eq 42, 3) := by decide +kernel
theorem dX8_isSeen_20 : decode cX8_isSeen 20 = .ok (.aload_n 0, 1) := by decide +kernel
theorem dX8_isSeen_21 : decode cX8_isSeen 21 = .ok (.getfield 19, 3) := by decide +kernel
theorem dX8_isSeen_24 : decode cX8_isSeen 24 = .ok (.istore 4, 2) := by decide +kernel
theorem dX8_isSeen_26 : decode cX8_isSeen 26 = .ok (.aload_n 0, 1) := by decide +kernel
theorem dX8_isSeen_27 : decode cX8_isSeen 27 = .ok (.iload_n 1, 1) := by decide +kernel
theorem dX8_isSeen_28 : decode cX8_isSeen 28 = .ok (.invokevirtual 323, 3) := by decide +kernel
theorem dX8_isSeen_31 : decode cX8_isSeen 31 = .ok (.aload_n 0, 1) := by decide +kernel
theorem dX8_isSeen_32 : decode cX8_isSeen 32 = .ok (.getfield 19, 3) := by decide +kernel
theorem dX8_isSeen_35 : decode cX8_isSeen 35 = .ok (.iload 4, 2) := by decide +kernel
theorem dX8_isSeen_37 : decode cX8_isSeen 37 = .ok (.isub, 1) := by decide +kernel
theorem dX8_isSeen_38 : decode cX8_isSeen 38 = .ok (.aload_n 0, 1) := by decide +kernel
theorem dX8_isSeen_39 : decode cX8_isSeen 39 = .ok (.getfield 132, 3) := by decide +kernel
theorem dX8_isSeen_42 : decode cX8_isSeen 42 = .ok (.iload_n 3, 1) := by decide +kernel
theorem dX8_isSeen_43 : decode cX8_isSeen 43 = .ok (.iaload, 1) := by decide +kernel
theorem dX8_isSeen_44 : decode cX8_isSeen 44 = .ok (.if_icmp .ne 7, 3) := by decide +kernel
theorem dX8_isSeen_47 : decode cX8_isSeen 47 = .ok (.iconst 1, 1) := by decide +kernel
theorem dX8_isSeen_48 : decode cX8_isSeen 48 = .ok (.goto 4, 3) := by decide +kernel
theorem dX8_isSeen_51 : decode cX8_isSeen 51 = .ok (.iconst 0, 1) := by decide +kernel
theorem dX8_isSeen_52 : decode cX8_isSeen 52 = .ok (.istore_n 2, 1) := by decide +kernel
theorem dX8_isSeen_53 : decode cX8_isSeen 53 = .ok (.iinc 3 1, 3) := by decide +kernel
theorem dX8_isSeen_56 : decode cX8_isSeen 56 = .ok (.goto (-48), 3) := by decide +kernel
theorem dX8_isSeen_59 : decode cX8_isSeen 59 = .ok (.aload_n 0, 1) := by decide +kernel
theorem dX8_isSeen_60 : decode cX8_isSeen 60 = .ok (.invokevirtual 335, 3) := by decide +kernel
theorem dX8_isSeen_63 : decode cX8_isSeen 63 = .ok (.iload_n 2, 1) := by decide +kernel
theorem dX8_isSeen_64 : decode cX8_isSeen 64 = .ok (.ireturn, 1) := by decide +kernel
theorem dX8_who_0 : decode cX8_who 0 = .ok (.iconst 0, 1) := by decide +kernel
theorem dX8_who_1 : decode cX8_who 1 = .ok (.istore_n 1, 1) := by decide +kernel
theorem dX8_who_2 : decode cX8_who 2 = .ok (.iconst 0, 1) := by decide +kernel
theorem dX8_who_3 : decode cX8_who 3 = .ok (.istore_n 2, 1) := by decide +kernel
theorem dX8_who_4 : decode cX8_who 4 = .ok (.iload_n 2, 1) := by decide +kernel
theorem dX8_who_5 : decode cX8_who 5 = .ok (.aload_n 0, 1) := by decide +kernel
theorem dX8_who_6 : decode cX8_who 6 = .ok (.getfield 7, 3) := by decide +kernel
theorem dX8_who_9 : decode cX8_who 9 = .ok (.if_icmp .ge 27, 3) := by decide +kernel
theorem dX8_who_12 : decode cX8_who 12 = .ok (.iload_n 1, 1) := by decide +kernel
theorem dX8_who_13 : decode cX8_who 13 = .ok (.aload_n 0, 1) := by decide +kernel
theorem dX8_who_14 : decode cX8_who 14 = .ok (.iload_n 2, 1) := by decide +kernel
theorem dX8_who_15 : decode cX8_who 15 = .ok (.invokevirtual 361, 3) := by decide +kernel
theorem dX8_who_18 : decode cX8_who 18 = .ok (.ifCond .eq 9, 3) := by decide +kernel
theorem dX8_who_21 : decode cX8_who 21 = .ok (.iconst 1, 1) := by decide +kernel
theorem dX8_who_22 : decode cX8_who 22 = .ok (.iload_n 2, 1) := by decide +kernel
theorem dX8_who_23 : decode cX8_who 23 = .ok (.ishl, 1) := by decide +kernel
theorem dX8_who_24 : decode cX8_who 24 = .ok (.goto 4, 3) := by decide +kernel
theorem dX8_who_27 : decode cX8_who 27 = .ok (.iconst 0, 1) := by decide +kernel
theorem dX8_who_28 : decode cX8_who 28 = .ok (.ior, 1) := by decide +kernel
theorem dX8_who_29 : decode cX8_who 29 = .ok (.istore_n 1, 1) := by decide +kernel
theorem dX8_who_30 : decode cX8_who 30 = .ok (.iinc 2 1, 3) := by decide +kernel
theorem dX8_who_33 : decode cX8_who 33 = .ok (.goto (-29), 3) := by decide +kernel
theorem dX8_who_36 : decode cX8_who 36 = .ok (.iload_n 1, 1) := by decide +kernel
theorem dX8_who_37 : decode cX8_who 37 = .ok (.ireturn, 1) := by decide +kernel
theorem dX8_divisor_0 : decode cX8_divisor 0 = .ok (.iload_n 1, 1) := by decide +kernel
theorem dX8_divisor_1 : decode cX8_divisor 1 = .ok (.istore_n 3, 1) := by decide +kernel
theorem dX8_divisor_2 : decode cX8_divisor 2 = .ok (.iload_n 2, 1) := by decide +kernel
theorem dX8_divisor_3 : decode cX8_divisor 3 = .ok (.istore 4, 2) := by decide +kernel
theorem dX8_divisor_5 : decode cX8_divisor 5 = .ok (.iload 4, 2) := by decide +kernel
theorem dX8_divisor_7 : decode cX8_divisor 7 = .ok (.ifCond .eq 19, 3) := by decide +kernel
theorem dX8_divisor_10 : decode cX8_divisor 10 = .ok (.iload_n 3, 1) := by decide +kernel
theorem dX8_divisor_11 : decode cX8_divisor 11 = .ok (.iload 4, 2) := by decide +kernel
theorem dX8_divisor_13 : decode cX8_divisor 13 = .ok (.irem, 1) := by decide +kernel
theorem dX8_divisor_14 : decode cX8_divisor 14 = .ok (.istore 5, 2) := by decide +kernel
theorem dX8_divisor_16 : decode cX8_divisor 16 = .ok (.iload 4, 2) := by decide +kernel
theorem dX8_divisor_18 : decode cX8_divisor 18 = .ok (.istore_n 3, 1) := by decide +kernel
theorem dX8_divisor_19 : decode cX8_divisor 19 = .ok (.iload 5, 2) := by decide +kernel
theorem dX8_divisor_21 : decode cX8_divisor 21 = .ok (.istore 4, 2) := by decide +kernel
theorem dX8_divisor_23 : decode cX8_divisor 23 = .ok (.goto (-18), 3) := by decide +kernel
theorem dX8_divisor_26 : decode cX8_divisor 26 = .ok (.iload_n 3, 1) := by decide +kernel
theorem dX8_divisor_27 : decode cX8_divisor 27 = .ok (.ireturn, 1) := by decide +kernel
theorem dX8_lowestTerms_0 : decode cX8_lowestTerms 0 = .ok (.aload_n 0, 1) := by decide +kernel
theorem dX8_lowestTerms_1 : decode cX8_lowestTerms 1 = .ok (.iload_n 1, 1) := by decide +kernel
theorem dX8_lowestTerms_2 : decode cX8_lowestTerms 2 = .ok (.iload_n 2, 1) := by decide +kernel
theorem dX8_lowestTerms_3 : decode cX8_lowestTerms 3 = .ok (.invokevirtual 364, 3) := by decide +kernel
theorem dX8_lowestTerms_6 : decode cX8_lowestTerms 6 = .ok (.istore 4, 2) := by decide +kernel
theorem dX8_lowestTerms_8 : decode cX8_lowestTerms 8 = .ok (.iload_n 3, 1) := by decide +kernel
theorem dX8_lowestTerms_9 : decode cX8_lowestTerms 9 = .ok (.ifCond .ne 11, 3) := by decide +kernel
theorem dX8_lowestTerms_12 : decode cX8_lowestTerms 12 = .ok (.iload_n 1, 1) := by decide +kernel
theorem dX8_lowestTerms_13 : decode cX8_lowestTerms 13 = .ok (.iload 4, 2) := by decide +kernel
theorem dX8_lowestTerms_15 : decode cX8_lowestTerms 15 = .ok (.idiv, 1) := by decide +kernel
theorem dX8_lowestTerms_16 : decode cX8_lowestTerms 16 = .ok (.i2l, 1) := by decide +kernel
theorem dX8_lowestTerms_17 : decode cX8_lowestTerms 17 = .ok (.goto 8, 3) := by decide +kernel
theorem dX8_lowestTerms_20 : decode cX8_lowestTerms 20 = .ok (.iload_n 2, 1) := by decide +kernel
theorem dX8_lowestTerms_21 : decode cX8_lowestTerms 21 = .ok (.iload 4, 2) := by decide +kernel
theorem dX8_lowestTerms_23 : decode cX8_lowestTerms 23 = .ok (.idiv, 1) := by decide +kernel
theorem dX8_lowestTerms_24 : decode cX8_lowestTerms 24 = .ok (.i2l, 1) := by decide +kernel
theorem dX8_lowestTerms_25 : decode cX8_lowestTerms 25 = .ok (.lreturn, 1) := by decide +kernel
theorem dX8_odds_0 : decode cX8_odds 0 = .ok (.aload_n 0, 1) := by decide +kernel
theorem dX8_odds_1 : decode cX8_odds 1 = .ok (.iload_n 1, 1) := by decide +kernel
theorem dX8_odds_2 : decode cX8_odds 2 = .ok (.iconst 0, 1) := by decide +kernel
theorem dX8_odds_3 : decode cX8_odds 3 = .ok (.sipush 400, 3) := by decide +kernel
theorem dX8_odds_6 : decode cX8_odds 6 = .ok (.invokevirtual 227, 3) := by decide +kernel
theorem dX8_odds_9 : decode cX8_odds 9 = .ok (.ifCond .eq 28, 3) := by decide +kernel
theorem dX8_odds_12 : decode cX8_odds 12 = .ok (.aload_n 0, 1) := by decide +kernel
theorem dX8_odds_13 : decode cX8_odds 13 = .ok (.iload_n 2, 1) := by decide +kernel
theorem dX8_odds_14 : decode cX8_odds 14 = .ok (.invokevirtual 320, 3) := by decide +kernel
theorem dX8_odds_17 : decode cX8_odds 17 = .ok (.ifCond .eq 20, 3) := by decide +kernel
theorem dX8_odds_20 : decode cX8_odds 20 = .ok (.aload_n 0, 1) := by decide +kernel
theorem dX8_odds_21 : decode cX8_odds 21 = .ok (.iload_n 3, 1) := by decide +kernel
theorem dX8_odds_22 : decode cX8_odds 22 = .ok (.iconst 0, 1) := by decide +kernel
theorem dX8_odds_23 : decode cX8_odds 23 = .ok (.iconst 1, 1) := by decide +kernel
theorem dX8_odds_24 : decode cX8_odds 24 = .ok (.invokevirtual 227, 3) := by decide +kernel
theorem dX8_odds_27 : decode cX8_odds 27 = .ok (.ifCond .eq 10, 3) := by decide +kernel
theorem dX8_odds_30 : decode cX8_odds 30 = .ok (.aload_n 0, 1) := by decide +kernel
theorem dX8_odds_31 : decode cX8_odds 31 = .ok (.getfield 7, 3) := by decide +kernel
theorem dX8_odds_34 : decode cX8_odds 34 = .ok (.ifCond .ne 7, 3) := by decide +kernel
theorem dX8_odds_37 : decode cX8_odds 37 = .ok (.ldc2_w 367, 3) := by decide +kernel
theorem dX8_odds_40 : decode cX8_odds 40 = .ok (.lreturn, 1) := by decide +kernel
theorem dX8_odds_41 : decode cX8_odds 41 = .ok (.iconst 0, 1) := by decide +kernel
theorem dX8_odds_42 : decode cX8_odds 42 = .ok (.istore 4, 2) := by decide +kernel
theorem dX8_odds_44 : decode cX8_odds 44 = .ok (.iconst 0, 1) := by decide +kernel
theorem dX8_odds_45 : decode cX8_odds 45 = .ok (.istore 5, 2) := by decide +kernel
theorem dX8_odds_47 : decode cX8_odds 47 = .ok (.iload 5, 2) := by decide +kernel
theorem dX8_odds_49 : decode cX8_odds 49 = .ok (.aload_n 0, 1) := by decide +kernel
theorem dX8_odds_50 : decode cX8_odds 50 = .ok (.getfield 7, 3) := by decide +kernel
theorem dX8_odds_53 : decode cX8_odds 53 = .ok (.if_icmp .ge 30, 3) := by decide +kernel
theorem dX8_odds_56 : decode cX8_odds 56 = .ok (.iload 4, 2) := by decide +kernel
theorem dX8_odds_58 : decode cX8_odds 58 = .ok (.aload_n 0, 1) := by decide +kernel
theorem dX8_odds_59 : decode cX8_odds 59 = .ok (.iload 5, 2) := by decide +kernel
theorem dX8_odds_61 : decode cX8_odds 61 = .ok (.iload_n 2, 1) := by decide +kernel
theorem dX8_odds_62 : decode cX8_odds 62 = .ok (.invokevirtual 338, 3) := by decide +kernel
theorem dX8_odds_65 : decode cX8_odds 65 = .ok (.iload_n 1, 1) := by decide +kernel
theorem dX8_odds_66 : decode cX8_odds 66 = .ok (.if_icmp .lt 7, 3) := by decide +kernel
theorem dX8_odds_69 : decode cX8_odds 69 = .ok (.iconst 1, 1) := by decide +kernel
theorem dX8_odds_70 : decode cX8_odds 70 = .ok (.goto 4, 3) := by decide +kernel
theorem dX8_odds_73 : decode cX8_odds 73 = .ok (.iconst 0, 1) := by decide +kernel
theorem dX8_odds_74 : decode cX8_odds 74 = .ok (.iadd, 1) := by decide +kernel
theorem dX8_odds_75 : decode cX8_odds 75 = .ok (.istore 4, 2) := by decide +kernel
theorem dX8_odds_77 : decode cX8_odds 77 = .ok (.iinc 5 1, 3) := by decide +kernel
theorem dX8_odds_80 : decode cX8_odds 80 = .ok (.goto (-33), 3) := by decide +kernel
theorem dX8_odds_83 : decode cX8_odds 83 = .ok (.aload_n 0, 1) := by decide +kernel
theorem dX8_odds_84 : decode cX8_odds 84 = .ok (.iload 4, 2) := by decide +kernel
theorem dX8_odds_86 : decode cX8_odds 86 = .ok (.aload_n 0, 1) := by decide +kernel
theorem dX8_odds_87 : decode cX8_odds 87 = .ok (.getfield 7, 3) := by decide +kernel
theorem dX8_odds_90 : decode cX8_odds 90 = .ok (.iload_n 3, 1) := by decide +kernel
theorem dX8_odds_91 : decode cX8_odds 91 = .ok (.invokevirtual 369, 3) := by decide +kernel
theorem dX8_odds_94 : decode cX8_odds 94 = .ok (.lreturn, 1) := by decide +kernel
theorem dX8_mean_0 : decode cX8_mean 0 = .ok (.aload_n 0, 1) := by decide +kernel
theorem dX8_mean_1 : decode cX8_mean 1 = .ok (.iload_n 1, 1) := by decide +kernel
theorem dX8_mean_2 : decode cX8_mean 2 = .ok (.invokevirtual 320, 3) := by decide +kernel
theorem dX8_mean_5 : decode cX8_mean 5 = .ok (.ifCond .eq 20, 3) := by decide +kernel
theorem dX8_mean_8 : decode cX8_mean 8 = .ok (.aload_n 0, 1) := by decide +kernel
theorem dX8_mean_9 : decode cX8_mean 9 = .ok (.iload_n 2, 1) := by decide +kernel
theorem dX8_mean_10 : decode cX8_mean 10 = .ok (.iconst 0, 1) := by decide +kernel
theorem dX8_mean_11 : decode cX8_mean 11 = .ok (.iconst 1, 1) := by decide +kernel
theorem dX8_mean_12 : decode cX8_mean 12 = .ok (.invokevirtual 227, 3) := by decide +kernel
theorem dX8_mean_15 : decode cX8_mean 15 = .ok (.ifCond .eq 10, 3) := by decide +kernel
theorem dX8_mean_18 : decode cX8_mean 18 = .ok (.aload_n 0, 1) := by decide +kernel
theorem dX8_mean_19 : decode cX8_mean 19 = .ok (.getfield 7, 3) := by decide +kernel
theorem dX8_mean_22 : decode cX8_mean 22 = .ok (.ifCond .ne 7, 3) := by decide +kernel
theorem dX8_mean_25 : decode cX8_mean 25 = .ok (.ldc2_w 367, 3) := by decide +kernel
theorem dX8_mean_28 : decode cX8_mean 28 = .ok (.lreturn, 1) := by decide +kernel
theorem dX8_mean_29 : decode cX8_mean 29 = .ok (.iconst 0, 1) := by decide +kernel
theorem dX8_mean_30 : decode cX8_mean 30 = .ok (.istore_n 3, 1) := by decide +kernel
theorem dX8_mean_31 : decode cX8_mean 31 = .ok (.iconst 0, 1) := by decide +kernel
theorem dX8_mean_32 : decode cX8_mean 32 = .ok (.istore 4, 2) := by decide +kernel
theorem dX8_mean_34 : decode cX8_mean 34 = .ok (.iload 4, 2) := by decide +kernel
theorem dX8_mean_36 : decode cX8_mean 36 = .ok (.aload_n 0, 1) := by decide +kernel
theorem dX8_mean_37 : decode cX8_mean 37 = .ok (.getfield 7, 3) := by decide +kernel
theorem dX8_mean_40 : decode cX8_mean 40 = .ok (.if_icmp .ge 19, 3) := by decide +kernel
theorem dX8_mean_43 : decode cX8_mean 43 = .ok (.iload_n 3, 1) := by decide +kernel
theorem dX8_mean_44 : decode cX8_mean 44 = .ok (.aload_n 0, 1) := by decide +kernel
theorem dX8_mean_45 : decode cX8_mean 45 = .ok (.iload 4, 2) := by decide +kernel
theorem dX8_mean_47 : decode cX8_mean 47 = .ok (.iload_n 1, 1) := by decide +kernel
theorem dX8_mean_48 : decode cX8_mean 48 = .ok (.invokevirtual 338, 3) := by decide +kernel
theorem dX8_mean_51 : decode cX8_mean 51 = .ok (.iadd, 1) := by decide +kernel
theorem dX8_mean_52 : decode cX8_mean 52 = .ok (.istore_n 3, 1) := by decide +kernel
theorem dX8_mean_53 : decode cX8_mean 53 = .ok (.iinc 4 1, 3) := by decide +kernel
theorem dX8_mean_56 : decode cX8_mean 56 = .ok (.goto (-22), 3) := by decide +kernel
theorem dX8_mean_59 : decode cX8_mean 59 = .ok (.aload_n 0, 1) := by decide +kernel
theorem dX8_mean_60 : decode cX8_mean 60 = .ok (.iload_n 3, 1) := by decide +kernel
theorem dX8_mean_61 : decode cX8_mean 61 = .ok (.aload_n 0, 1) := by decide +kernel
theorem dX8_mean_62 : decode cX8_mean 62 = .ok (.getfield 7, 3) := by decide +kernel
theorem dX8_mean_65 : decode cX8_mean 65 = .ok (.iload_n 2, 1) := by decide +kernel
theorem dX8_mean_66 : decode cX8_mean 66 = .ok (.invokevirtual 369, 3) := by decide +kernel
theorem dX8_mean_69 : decode cX8_mean 69 = .ok (.lreturn, 1) := by decide +kernel
theorem dX8_book_0 : decode cX8_book 0 = .ok (.iload_n 1, 1) := by decide +kernel
theorem dX8_book_1 : decode cX8_book 1 = .ok (.iconst (-1), 1) := by decide +kernel
theorem dX8_book_2 : decode cX8_book 2 = .ok (.if_icmp .ne 10, 3) := by decide +kernel
theorem dX8_book_5 : decode cX8_book 5 = .ok (.aload_n 0, 1) := by decide +kernel
theorem dX8_book_6 : decode cX8_book 6 = .ok (.iconst 0, 1) := by decide +kernel
theorem dX8_book_7 : decode cX8_book 7 = .ok (.putfield 135, 3) := by decide +kernel
theorem dX8_book_10 : decode cX8_book 10 = .ok (.iconst 0, 1) := by decide +kernel
theorem dX8_book_11 : decode cX8_book 11 = .ok (.ireturn, 1) := by decide +kernel
theorem dX8_book_12 : decode cX8_book 12 = .ok (.aload_n 0, 1) := by decide +kernel
theorem dX8_book_13 : decode cX8_book 13 = .ok (.iload_n 1, 1) := by decide +kernel
theorem dX8_book_14 : decode cX8_book 14 = .ok (.invokevirtual 235, 3) := by decide +kernel
theorem dX8_book_17 : decode cX8_book 17 = .ok (.ifCond .ne 5, 3) := by decide +kernel
theorem dX8_book_20 : decode cX8_book 20 = .ok (.iconst (-1), 1) := by decide +kernel
theorem dX8_book_21 : decode cX8_book 21 = .ok (.ireturn, 1) := by decide +kernel
theorem dX8_book_22 : decode cX8_book 22 = .ok (.aload_n 0, 1) := by decide +kernel
theorem dX8_book_23 : decode cX8_book 23 = .ok (.iload_n 2, 1) := by decide +kernel
theorem dX8_book_24 : decode cX8_book 24 = .ok (.bipush (-99), 2) := by decide +kernel
theorem dX8_book_26 : decode cX8_book 26 = .ok (.bipush 99, 2) := by decide +kernel
theorem dX8_book_28 : decode cX8_book 28 = .ok (.invokevirtual 227, 3) := by decide +kernel
theorem dX8_book_31 : decode cX8_book 31 = .ok (.ifCond .ne 6, 3) := by decide +kernel
theorem dX8_book_34 : decode cX8_book 34 = .ok (.bipush (-2), 2) := by decide +kernel
theorem dX8_book_36 : decode cX8_book 36 = .ok (.ireturn, 1) := by decide +kernel
theorem dX8_book_37 : decode cX8_book 37 = .ok (.aload_n 0, 1) := by decide +kernel
theorem dX8_book_38 : decode cX8_book 38 = .ok (.getfield 135, 3) := by decide +kernel
theorem dX8_book_41 : decode cX8_book 41 = .ok (.bipush 8, 2) := by decide +kernel
theorem dX8_book_43 : decode cX8_book 43 = .ok (.if_icmp .ne 6, 3) := by decide +kernel
theorem dX8_book_46 : decode cX8_book 46 = .ok (.bipush (-4), 2) := by decide +kernel
theorem dX8_book_48 : decode cX8_book 48 = .ok (.ireturn, 1) := by decide +kernel
theorem dX8_book_49 : decode cX8_book 49 = .ok (.aload_n 0, 1) := by decide +kernel
theorem dX8_book_50 : decode cX8_book 50 = .ok (.getfield 138, 3) := by decide +kernel
theorem dX8_book_53 : decode cX8_book 53 = .ok (.aload_n 0, 1) := by decide +kernel
theorem dX8_book_54 : decode cX8_book 54 = .ok (.getfield 135, 3) := by decide +kernel
theorem dX8_book_57 : decode cX8_book 57 = .ok (.iload_n 1, 1) := by decide +kernel
theorem dX8_book_58 : decode cX8_book 58 = .ok (.iastore, 1) := by decide +kernel
theorem dX8_book_59 : decode cX8_book 59 = .ok (.aload_n 0, 1) := by decide +kernel
theorem dX8_book_60 : decode cX8_book 60 = .ok (.getfield 141, 3) := by decide +kernel
theorem dX8_book_63 : decode cX8_book 63 = .ok (.aload_n 0, 1) := by decide +kernel
theorem dX8_book_64 : decode cX8_book 64 = .ok (.getfield 135, 3) := by decide +kernel
theorem dX8_book_67 : decode cX8_book 67 = .ok (.iload_n 2, 1) := by decide +kernel
theorem dX8_book_68 : decode cX8_book 68 = .ok (.iastore, 1) := by decide +kernel
theorem dX8_book_69 : decode cX8_book 69 = .ok (.aload_n 0, 1) := by decide +kernel
theorem dX8_book_70 : decode cX8_book 70 = .ok (.dup, 1) := by decide +kernel
theorem dX8_book_71 : decode cX8_book 71 = .ok (.getfield 135, 3) := by decide +kernel
theorem dX8_book_74 : decode cX8_book 74 = .ok (.iconst 1, 1) := by decide +kernel
theorem dX8_book_75 : decode cX8_book 75 = .ok (.iadd, 1) := by decide +kernel
theorem dX8_book_76 : decode cX8_book 76 = .ok (.putfield 135, 3) := by decide +kernel
theorem dX8_book_79 : decode cX8_book 79 = .ok (.aload_n 0, 1) := by decide +kernel
theorem dX8_book_80 : decode cX8_book 80 = .ok (.getfield 135, 3) := by decide +kernel
theorem dX8_book_83 : decode cX8_book 83 = .ok (.ireturn, 1) := by decide +kernel
theorem dX8_looked_0 : decode cX8_looked 0 = .ok (.iconst 0, 1) := by decide +kernel
theorem dX8_looked_1 : decode cX8_looked 1 = .ok (.istore_n 1, 1) := by decide +kernel
theorem dX8_looked_2 : decode cX8_looked 2 = .ok (.iload_n 1, 1) := by decide +kernel
theorem dX8_looked_3 : decode cX8_looked 3 = .ok (.aload_n 0, 1) := by decide +kernel
theorem dX8_looked_4 : decode cX8_looked 4 = .ok (.getfield 135, 3) := by decide +kernel
theorem dX8_looked_7 : decode cX8_looked 7 = .ok (.if_icmp .ge 30, 3) := by decide +kernel
theorem dX8_looked_10 : decode cX8_looked 10 = .ok (.aload_n 0, 1) := by decide +kernel
theorem dX8_looked_11 : decode cX8_looked 11 = .ok (.aload_n 0, 1) := by decide +kernel
theorem dX8_looked_12 : decode cX8_looked 12 = .ok (.getfield 138, 3) := by decide +kernel
theorem dX8_looked_15 : decode cX8_looked 15 = .ok (.iload_n 1, 1) := by decide +kernel
theorem dX8_looked_16 : decode cX8_looked 16 = .ok (.iaload, 1) := by decide +kernel
theorem dX8_looked_17 : decode cX8_looked 17 = .ok (.invokevirtual 304, 3) := by decide +kernel
theorem dX8_looked_20 : decode cX8_looked 20 = .ok (.aload_n 0, 1) := by decide +kernel
theorem dX8_looked_21 : decode cX8_looked 21 = .ok (.getfield 141, 3) := by decide +kernel
theorem dX8_looked_24 : decode cX8_looked 24 = .ok (.iload_n 1, 1) := by decide +kernel
theorem dX8_looked_25 : decode cX8_looked 25 = .ok (.iaload, 1) := by decide +kernel
theorem dX8_looked_26 : decode cX8_looked 26 = .ok (.if_icmp .eq 5, 3) := by decide +kernel
theorem dX8_looked_29 : decode cX8_looked 29 = .ok (.iload_n 1, 1) := by decide +kernel
theorem dX8_looked_30 : decode cX8_looked 30 = .ok (.ireturn, 1) := by decide +kernel
theorem dX8_looked_31 : decode cX8_looked 31 = .ok (.iinc 1 1, 3) := by decide +kernel
theorem dX8_looked_34 : decode cX8_looked 34 = .ok (.goto (-32), 3) := by decide +kernel
theorem dX8_looked_37 : decode cX8_looked 37 = .ok (.bipush (-5), 2) := by decide +kernel
theorem dX8_looked_39 : decode cX8_looked 39 = .ok (.ireturn, 1) := by decide +kernel
theorem dX8_judge_0 : decode cX8_judge 0 = .ok (.aload_n 0, 1) := by decide +kernel
theorem dX8_judge_1 : decode cX8_judge 1 = .ok (.iload_n 1, 1) := by decide +kernel
theorem dX8_judge_2 : decode cX8_judge 2 = .ok (.invokevirtual 373, 3) := by decide +kernel
theorem dX8_judge_5 : decode cX8_judge 5 = .ok (.ifCond .ne 5, 3) := by decide +kernel
theorem dX8_judge_8 : decode cX8_judge 8 = .ok (.iconst (-1), 1) := by decide +kernel
theorem dX8_judge_9 : decode cX8_judge 9 = .ok (.ireturn, 1) := by decide +kernel
theorem dX8_judge_10 : decode cX8_judge 10 = .ok (.aload_n 0, 1) := by decide +kernel
theorem dX8_judge_11 : decode cX8_judge 11 = .ok (.getfield 214, 3) := by decide +kernel
theorem dX8_judge_14 : decode cX8_judge 14 = .ok (.iload_n 1, 1) := by decide +kernel
theorem dX8_judge_15 : decode cX8_judge 15 = .ok (.iaload, 1) := by decide +kernel
theorem dX8_judge_16 : decode cX8_judge 16 = .ok (.ifCond .le 6, 3) := by decide +kernel
theorem dX8_judge_19 : decode cX8_judge 19 = .ok (.bipush (-12), 2) := by decide +kernel
theorem dX8_judge_21 : decode cX8_judge 21 = .ok (.ireturn, 1) := by decide +kernel
theorem dX8_judge_22 : decode cX8_judge 22 = .ok (.iconst 0, 1) := by decide +kernel
theorem dX8_judge_23 : decode cX8_judge 23 = .ok (.istore_n 3, 1) := by decide +kernel
theorem dX8_judge_24 : decode cX8_judge 24 = .ok (.iload_n 3, 1) := by decide +kernel
theorem dX8_judge_25 : decode cX8_judge 25 = .ok (.aload_n 0, 1) := by decide +kernel
theorem dX8_judge_26 : decode cX8_judge 26 = .ok (.getfield 7, 3) := by decide +kernel
theorem dX8_judge_29 : decode cX8_judge 29 = .ok (.if_icmp .ge 67, 3) := by decide +kernel
theorem dX8_judge_32 : decode cX8_judge 32 = .ok (.aload_n 0, 1) := by decide +kernel
theorem dX8_judge_33 : decode cX8_judge 33 = .ok (.getfield 214, 3) := by decide +kernel
theorem dX8_judge_36 : decode cX8_judge 36 = .ok (.iload_n 1, 1) := by decide +kernel
theorem dX8_judge_37 : decode cX8_judge 37 = .ok (.iaload, 1) := by decide +kernel
theorem dX8_judge_38 : decode cX8_judge 38 = .ok (.ifCond .lt 21, 3) := by decide +kernel
theorem dX8_judge_41 : decode cX8_judge 41 = .ok (.iload_n 2, 1) := by decide +kernel
theorem dX8_judge_42 : decode cX8_judge 42 = .ok (.ifCond .lt 17, 3) := by decide +kernel
theorem dX8_judge_45 : decode cX8_judge 45 = .ok (.iload_n 2, 1) := by decide +kernel
theorem dX8_judge_46 : decode cX8_judge 46 = .ok (.aload_n 0, 1) := by decide +kernel
theorem dX8_judge_47 : decode cX8_judge 47 = .ok (.getfield 217, 3) := by decide +kernel
theorem dX8_judge_50 : decode cX8_judge 50 = .ok (.iload_n 1, 1) := by decide +kernel
theorem dX8_judge_51 : decode cX8_judge 51 = .ok (.iaload, 1) := by decide +kernel
theorem dX8_judge_52 : decode cX8_judge 52 = .ok (.iload_n 3, 1) := by decide +kernel
theorem dX8_judge_53 : decode cX8_judge 53 = .ok (.isub, 1) := by decide +kernel
theorem dX8_judge_54 : decode cX8_judge 54 = .ok (.iconst 1, 1) := by decide +kernel
theorem dX8_judge_55 : decode cX8_judge 55 = .ok (.isub, 1) := by decide +kernel
theorem dX8_judge_56 : decode cX8_judge 56 = .ok (.if_icmp .le 8, 3) := by decide +kernel
theorem dX8_judge_59 : decode cX8_judge 59 = .ok (.bipush 100, 2) := by decide +kernel
theorem dX8_judge_61 : decode cX8_judge 61 = .ok (.iload_n 3, 1) := by decide +kernel
theorem dX8_judge_62 : decode cX8_judge 62 = .ok (.iadd, 1) := by decide +kernel
theorem dX8_judge_63 : decode cX8_judge 63 = .ok (.ireturn, 1) := by decide +kernel
theorem dX8_judge_64 : decode cX8_judge 64 = .ok (.aload_n 0, 1) := by decide +kernel
theorem dX8_judge_65 : decode cX8_judge 65 = .ok (.getfield 220, 3) := by decide +kernel
theorem dX8_judge_68 : decode cX8_judge 68 = .ok (.bipush 60, 2) := by decide +kernel
theorem dX8_judge_70 : decode cX8_judge 70 = .ok (.iload_n 1, 1) := by decide +kernel
theorem dX8_judge_71 : decode cX8_judge 71 = .ok (.imul, 1) := by decide +kernel
theorem dX8_judge_72 : decode cX8_judge 72 = .ok (.iload_n 2, 1) := by decide +kernel
theorem dX8_judge_73 : decode cX8_judge 73 = .ok (.iadd, 1) := by decide +kernel
theorem dX8_judge_74 : decode cX8_judge 74 = .ok (.iload_n 3, 1) := by decide +kernel
theorem dX8_judge_75 : decode cX8_judge 75 = .ok (.iadd, 1) := by decide +kernel
theorem dX8_judge_76 : decode cX8_judge 76 = .ok (.laload, 1) := by decide +kernel
theorem dX8_judge_77 : decode cX8_judge 77 = .ok (.aload_n 0, 1) := by decide +kernel
theorem dX8_judge_78 : decode cX8_judge 78 = .ok (.getfield 35, 3) := by decide +kernel
theorem dX8_judge_81 : decode cX8_judge 81 = .ok (.iload_n 3, 1) := by decide +kernel
theorem dX8_judge_82 : decode cX8_judge 82 = .ok (.iaload, 1) := by decide +kernel
theorem dX8_judge_83 : decode cX8_judge 83 = .ok (.i2l, 1) := by decide +kernel
theorem dX8_judge_84 : decode cX8_judge 84 = .ok (.lcmp, 1) := by decide +kernel
theorem dX8_judge_85 : decode cX8_judge 85 = .ok (.ifCond .eq 5, 3) := by decide +kernel
theorem dX8_judge_88 : decode cX8_judge 88 = .ok (.iload_n 3, 1) := by decide +kernel
theorem dX8_judge_89 : decode cX8_judge 89 = .ok (.ireturn, 1) := by decide +kernel
theorem dX8_judge_90 : decode cX8_judge 90 = .ok (.iinc 3 1, 3) := by decide +kernel
theorem dX8_judge_93 : decode cX8_judge 93 = .ok (.goto (-69), 3) := by decide +kernel
theorem dX8_judge_96 : decode cX8_judge 96 = .ok (.bipush (-5), 2) := by decide +kernel
theorem dX8_judge_98 : decode cX8_judge 98 = .ok (.ireturn, 1) := by decide +kernel
theorem dX8_image_0 : decode cX8_image 0 = .ok (.aload_n 0, 1) := by decide +kernel
theorem dX8_image_1 : decode cX8_image 1 = .ok (.iconst 1, 1) := by decide +kernel
theorem dX8_image_2 : decode cX8_image 2 = .ok (.putfield 144, 3) := by decide +kernel
theorem dX8_image_5 : decode cX8_image 5 = .ok (.aload_n 0, 1) := by decide +kernel
theorem dX8_image_6 : decode cX8_image 6 = .ok (.aload_n 0, 1) := by decide +kernel
theorem dX8_image_7 : decode cX8_image 7 = .ok (.getfield 47, 3) := by decide +kernel
theorem dX8_image_10 : decode cX8_image 10 = .ok (.putfield 148, 3) := by decide +kernel
theorem dX8_image_13 : decode cX8_image 13 = .ok (.aload_n 0, 1) := by decide +kernel
theorem dX8_image_14 : decode cX8_image 14 = .ok (.aload_n 0, 1) := by decide +kernel
theorem dX8_image_15 : decode cX8_image 15 = .ok (.getfield 7, 3) := by decide +kernel
theorem dX8_image_18 : decode cX8_image 18 = .ok (.putfield 151, 3) := by decide +kernel
theorem dX8_image_21 : decode cX8_image 21 = .ok (.aload_n 0, 1) := by decide +kernel
theorem dX8_image_22 : decode cX8_image 22 = .ok (.aload_n 0, 1) := by decide +kernel
theorem dX8_image_23 : decode cX8_image 23 = .ok (.getfield 13, 3) := by decide +kernel
theorem dX8_image_26 : decode cX8_image 26 = .ok (.putfield 154, 3) := by decide +kernel
theorem dX8_image_29 : decode cX8_image 29 = .ok (.aload_n 0, 1) := by decide +kernel
theorem dX8_image_30 : decode cX8_image 30 = .ok (.aload_n 0, 1) := by decide +kernel
theorem dX8_image_31 : decode cX8_image 31 = .ok (.getfield 16, 3) := by decide +kernel
theorem dX8_image_34 : decode cX8_image 34 = .ok (.putfield 157, 3) := by decide +kernel
theorem dX8_image_37 : decode cX8_image 37 = .ok (.aload_n 0, 1) := by decide +kernel
theorem dX8_image_38 : decode cX8_image 38 = .ok (.aload_n 0, 1) := by decide +kernel
theorem dX8_image_39 : decode cX8_image 39 = .ok (.getfield 19, 3) := by decide +kernel
theorem dX8_image_42 : decode cX8_image 42 = .ok (.putfield 160, 3) := by decide +kernel
theorem dX8_image_45 : decode cX8_image 45 = .ok (.aload_n 0, 1) := by decide +kernel
theorem dX8_image_46 : decode cX8_image 46 = .ok (.aload_n 0, 1) := by decide +kernel
theorem dX8_image_47 : decode cX8_image 47 = .ok (.getfield 22, 3) := by decide +kernel
theorem dX8_image_50 : decode cX8_image 50 = .ok (.putfield 163, 3) := by decide +kernel
theorem dX8_image_53 : decode cX8_image 53 = .ok (.aload_n 0, 1) := by decide +kernel
theorem dX8_image_54 : decode cX8_image 54 = .ok (.aload_n 0, 1) := by decide +kernel
theorem dX8_image_55 : decode cX8_image 55 = .ok (.getfield 25, 3) := by decide +kernel
theorem dX8_image_58 : decode cX8_image 58 = .ok (.putfield 166, 3) := by decide +kernel
theorem dX8_image_61 : decode cX8_image 61 = .ok (.aload_n 0, 1) := by decide +kernel
theorem dX8_image_62 : decode cX8_image 62 = .ok (.aload_n 0, 1) := by decide +kernel
theorem dX8_image_63 : decode cX8_image 63 = .ok (.getfield 120, 3) := by decide +kernel
theorem dX8_image_66 : decode cX8_image 66 = .ok (.putfield 169, 3) := by decide +kernel
theorem dX8_image_69 : decode cX8_image 69 = .ok (.aload_n 0, 1) := by decide +kernel
theorem dX8_image_70 : decode cX8_image 70 = .ok (.aload_n 0, 1) := by decide +kernel
theorem dX8_image_71 : decode cX8_image 71 = .ok (.getfield 129, 3) := by decide +kernel
theorem dX8_image_74 : decode cX8_image 74 = .ok (.putfield 172, 3) := by decide +kernel
theorem dX8_image_77 : decode cX8_image 77 = .ok (.aload_n 0, 1) := by decide +kernel
theorem dX8_image_78 : decode cX8_image 78 = .ok (.aload_n 0, 1) := by decide +kernel
theorem dX8_image_79 : decode cX8_image 79 = .ok (.getfield 135, 3) := by decide +kernel
theorem dX8_image_82 : decode cX8_image 82 = .ok (.putfield 175, 3) := by decide +kernel
theorem dX8_image_85 : decode cX8_image 85 = .ok (.iconst 0, 1) := by decide +kernel
theorem dX8_image_86 : decode cX8_image 86 = .ok (.istore_n 1, 1) := by decide +kernel
theorem dX8_image_87 : decode cX8_image 87 = .ok (.iload_n 1, 1) := by decide +kernel
theorem dX8_image_88 : decode cX8_image 88 = .ok (.bipush 6, 2) := by decide +kernel
theorem dX8_image_90 : decode cX8_image 90 = .ok (.if_icmp .ge 57, 3) := by decide +kernel
theorem dX8_image_93 : decode cX8_image 93 = .ok (.aload_n 0, 1) := by decide +kernel
theorem dX8_image_94 : decode cX8_image 94 = .ok (.getfield 178, 3) := by decide +kernel
theorem dX8_image_97 : decode cX8_image 97 = .ok (.iload_n 1, 1) := by decide +kernel
theorem dX8_image_98 : decode cX8_image 98 = .ok (.aload_n 0, 1) := by decide +kernel
theorem dX8_image_99 : decode cX8_image 99 = .ok (.getfield 28, 3) := by decide +kernel
theorem dX8_image_102 : decode cX8_image 102 = .ok (.iload_n 1, 1) := by decide +kernel
theorem dX8_image_103 : decode cX8_image 103 = .ok (.iaload, 1) := by decide +kernel
theorem dX8_image_104 : decode cX8_image 104 = .ok (.iastore, 1) := by decide +kernel
theorem dX8_image_105 : decode cX8_image 105 = .ok (.aload_n 0, 1) := by decide +kernel
theorem dX8_image_106 : decode cX8_image 106 = .ok (.getfield 181, 3) := by decide +kernel
theorem dX8_image_109 : decode cX8_image 109 = .ok (.iload_n 1, 1) := by decide +kernel
theorem dX8_image_110 : decode cX8_image 110 = .ok (.aload_n 0, 1) := by decide +kernel
theorem dX8_image_111 : decode cX8_image 111 = .ok (.getfield 32, 3) := by decide +kernel
theorem dX8_image_114 : decode cX8_image 114 = .ok (.iload_n 1, 1) := by decide +kernel
theorem dX8_image_115 : decode cX8_image 115 = .ok (.iaload, 1) := by decide +kernel
theorem dX8_image_116 : decode cX8_image 116 = .ok (.iastore, 1) := by decide +kernel
theorem dX8_image_117 : decode cX8_image 117 = .ok (.aload_n 0, 1) := by decide +kernel
theorem dX8_image_118 : decode cX8_image 118 = .ok (.getfield 184, 3) := by decide +kernel
theorem dX8_image_121 : decode cX8_image 121 = .ok (.iload_n 1, 1) := by decide +kernel
theorem dX8_image_122 : decode cX8_image 122 = .ok (.aload_n 0, 1) := by decide +kernel
theorem dX8_image_123 : decode cX8_image 123 = .ok (.getfield 35, 3) := by decide +kernel
theorem dX8_image_126 : decode cX8_image 126 = .ok (.iload_n 1, 1) := by decide +kernel
theorem dX8_image_127 : decode cX8_image 127 = .ok (.iaload, 1) := by decide +kernel
theorem dX8_image_128 : decode cX8_image 128 = .ok (.iastore, 1) := by decide +kernel
theorem dX8_image_129 : decode cX8_image 129 = .ok (.aload_n 0, 1) := by decide +kernel
theorem dX8_image_130 : decode cX8_image 130 = .ok (.getfield 187, 3) := by decide +kernel
theorem dX8_image_133 : decode cX8_image 133 = .ok (.iload_n 1, 1) := by decide +kernel
theorem dX8_image_134 : decode cX8_image 134 = .ok (.aload_n 0, 1) := by decide +kernel
theorem dX8_image_135 : decode cX8_image 135 = .ok (.getfield 38, 3) := by decide +kernel
theorem dX8_image_138 : decode cX8_image 138 = .ok (.iload_n 1, 1) := by decide +kernel
theorem dX8_image_139 : decode cX8_image 139 = .ok (.iaload, 1) := by decide +kernel
theorem dX8_image_140 : decode cX8_image 140 = .ok (.iastore, 1) := by decide +kernel
theorem dX8_image_141 : decode cX8_image 141 = .ok (.iinc 1 1, 3) := by decide +kernel
theorem dX8_image_144 : decode cX8_image 144 = .ok (.goto (-57), 3) := by decide +kernel
theorem dX8_image_147 : decode cX8_image 147 = .ok (.iconst 0, 1) := by decide +kernel
theorem dX8_image_148 : decode cX8_image 148 = .ok (.istore_n 1, 1) := by decide +kernel
theorem dX8_image_149 : decode cX8_image 149 = .ok (.iload_n 1, 1) := by decide +kernel
theorem dX8_image_150 : decode cX8_image 150 = .ok (.bipush 24, 2) := by decide +kernel
theorem dX8_image_152 : decode cX8_image 152 = .ok (.if_icmp .ge 21, 3) := by decide +kernel
theorem dX8_image_155 : decode cX8_image 155 = .ok (.aload_n 0, 1) := by decide +kernel
theorem dX8_image_156 : decode cX8_image 156 = .ok (.getfield 190, 3) := by decide +kernel
theorem dX8_image_159 : decode cX8_image 159 = .ok (.iload_n 1, 1) := by decide +kernel
theorem dX8_image_160 : decode cX8_image 160 = .ok (.aload_n 0, 1) := by decide +kernel
theorem dX8_image_161 : decode cX8_image 161 = .ok (.getfield 41, 3) := by decide +kernel
theorem dX8_image_164 : decode cX8_image 164 = .ok (.iload_n 1, 1) := by decide +kernel
theorem dX8_image_165 : decode cX8_image 165 = .ok (.iaload, 1) := by decide +kernel
theorem dX8_image_166 : decode cX8_image 166 = .ok (.iastore, 1) := by decide +kernel
theorem dX8_image_167 : decode cX8_image 167 = .ok (.iinc 1 1, 3) := by decide +kernel
theorem dX8_image_170 : decode cX8_image 170 = .ok (.goto (-21), 3) := by decide +kernel
theorem dX8_image_173 : decode cX8_image 173 = .ok (.iconst 0, 1) := by decide +kernel
theorem dX8_image_174 : decode cX8_image 174 = .ok (.istore_n 1, 1) := by decide +kernel
theorem dX8_image_175 : decode cX8_image 175 = .ok (.iload_n 1, 1) := by decide +kernel
theorem dX8_image_176 : decode cX8_image 176 = .ok (.iconst 4, 1) := by decide +kernel
theorem dX8_image_177 : decode cX8_image 177 = .ok (.if_icmp .ge 33, 3) := by decide +kernel
theorem dX8_image_180 : decode cX8_image 180 = .ok (.aload_n 0, 1) := by decide +kernel
theorem dX8_image_181 : decode cX8_image 181 = .ok (.getfield 193, 3) := by decide +kernel
theorem dX8_image_184 : decode cX8_image 184 = .ok (.iload_n 1, 1) := by decide +kernel
theorem dX8_image_185 : decode cX8_image 185 = .ok (.aload_n 0, 1) := by decide +kernel
theorem dX8_image_186 : decode cX8_image 186 = .ok (.getfield 123, 3) := by decide +kernel
theorem dX8_image_189 : decode cX8_image 189 = .ok (.iload_n 1, 1) := by decide +kernel
theorem dX8_image_190 : decode cX8_image 190 = .ok (.iaload, 1) := by decide +kernel
theorem dX8_image_191 : decode cX8_image 191 = .ok (.iastore, 1) := by decide +kernel
theorem dX8_image_192 : decode cX8_image 192 = .ok (.aload_n 0, 1) := by decide +kernel
theorem dX8_image_193 : decode cX8_image 193 = .ok (.getfield 196, 3) := by decide +kernel
theorem dX8_image_196 : decode cX8_image 196 = .ok (.iload_n 1, 1) := by decide +kernel
theorem dX8_image_197 : decode cX8_image 197 = .ok (.aload_n 0, 1) := by decide +kernel
theorem dX8_image_198 : decode cX8_image 198 = .ok (.getfield 126, 3) := by decide +kernel
theorem dX8_image_201 : decode cX8_image 201 = .ok (.iload_n 1, 1) := by decide +kernel
theorem dX8_image_202 : decode cX8_image 202 = .ok (.iaload, 1) := by decide +kernel
theorem dX8_image_203 : decode cX8_image 203 = .ok (.iastore, 1) := by decide +kernel
theorem dX8_image_204 : decode cX8_image 204 = .ok (.iinc 1 1, 3) := by decide +kernel
theorem dX8_image_207 : decode cX8_image 207 = .ok (.goto (-32), 3) := by decide +kernel
theorem dX8_image_210 : decode cX8_image 210 = .ok (.iconst 0, 1) := by decide +kernel
theorem dX8_image_211 : decode cX8_image 211 = .ok (.istore_n 1, 1) := by decide +kernel
theorem dX8_image_212 : decode cX8_image 212 = .ok (.iload_n 1, 1) := by decide +kernel
theorem dX8_image_213 : decode cX8_image 213 = .ok (.iconst 5, 1) := by decide +kernel
theorem dX8_image_214 : decode cX8_image 214 = .ok (.if_icmp .ge 21, 3) := by decide +kernel
theorem dX8_image_217 : decode cX8_image 217 = .ok (.aload_n 0, 1) := by decide +kernel
theorem dX8_image_218 : decode cX8_image 218 = .ok (.getfield 199, 3) := by decide +kernel
theorem dX8_image_221 : decode cX8_image 221 = .ok (.iload_n 1, 1) := by decide +kernel
theorem dX8_image_222 : decode cX8_image 222 = .ok (.aload_n 0, 1) := by decide +kernel
theorem dX8_image_223 : decode cX8_image 223 = .ok (.getfield 132, 3) := by decide +kernel
theorem dX8_image_226 : decode cX8_image 226 = .ok (.iload_n 1, 1) := by decide +kernel
theorem dX8_image_227 : decode cX8_image 227 = .ok (.iaload, 1) := by decide +kernel
theorem dX8_image_228 : decode cX8_image 228 = .ok (.iastore, 1) := by decide +kernel
theorem dX8_image_229 : decode cX8_image 229 = .ok (.iinc 1 1, 3) := by decide +kernel
theorem dX8_image_232 : decode cX8_image 232 = .ok (.goto (-20), 3) := by decide +kernel
theorem dX8_image_235 : decode cX8_image 235 = .ok (.iconst 0, 1) := by decide +kernel
theorem dX8_image_236 : decode cX8_image 236 = .ok (.istore_n 1, 1) := by decide +kernel
theorem dX8_image_237 : decode cX8_image 237 = .ok (.iload_n 1, 1) := by decide +kernel
theorem dX8_image_238 : decode cX8_image 238 = .ok (.bipush 8, 2) := by decide +kernel
theorem dX8_image_240 : decode cX8_image 240 = .ok (.if_icmp .ge 33, 3) := by decide +kernel
theorem dX8_image_243 : decode cX8_image 243 = .ok (.aload_n 0, 1) := by decide +kernel
theorem dX8_image_244 : decode cX8_image 244 = .ok (.getfield 202, 3) := by decide +kernel
theorem dX8_image_247 : decode cX8_image 247 = .ok (.iload_n 1, 1) := by decide +kernel
theorem dX8_image_248 : decode cX8_image 248 = .ok (.aload_n 0, 1) := by decide +kernel
theorem dX8_image_249 : decode cX8_image 249 = .ok (.getfield 138, 3) := by decide +kernel
theorem dX8_image_252 : decode cX8_image 252 = .ok (.iload_n 1, 1) := by decide +kernel
theorem dX8_image_253 : decode cX8_image 253 = .ok (.iaload, 1) := by decide +kernel
theorem dX8_image_254 : decode cX8_image 254 = .ok (.iastore, 1) := by decide +kernel
theorem dX8_image_255 : decode cX8_image 255 = .ok (.aload_n 0, 1) := by decide +kernel
theorem dX8_image_256 : decode cX8_image 256 = .ok (.getfield 205, 3) := by decide +kernel
theorem dX8_image_259 : decode cX8_image 259 = .ok (.iload_n 1, 1) := by decide +kernel
theorem dX8_image_260 : decode cX8_image 260 = .ok (.aload_n 0, 1) := by decide +kernel
theorem dX8_image_261 : decode cX8_image 261 = .ok (.getfield 141, 3) := by decide +kernel
theorem dX8_image_264 : decode cX8_image 264 = .ok (.iload_n 1, 1) := by decide +kernel
theorem dX8_image_265 : decode cX8_image 265 = .ok (.iaload, 1) := by decide +kernel
theorem dX8_image_266 : decode cX8_image 266 = .ok (.iastore, 1) := by decide +kernel
theorem dX8_image_267 : decode cX8_image 267 = .ok (.iinc 1 1, 3) := by decide +kernel
theorem dX8_image_270 : decode cX8_image 270 = .ok (.goto (-33), 3) := by decide +kernel
theorem dX8_image_273 : decode cX8_image 273 = .ok (.aload_n 0, 1) := by decide +kernel
theorem dX8_image_274 : decode cX8_image 274 = .ok (.getfield 7, 3) := by decide +kernel
theorem dX8_image_277 : decode cX8_image 277 = .ok (.ireturn, 1) := by decide +kernel
theorem dX8_undo_0 : decode cX8_undo 0 = .ok (.aload_n 0, 1) := by decide +kernel
theorem dX8_undo_1 : decode cX8_undo 1 = .ok (.getfield 144, 3) := by decide +kernel
theorem dX8_undo_4 : decode cX8_undo 4 = .ok (.ifCond .ne 6, 3) := by decide +kernel
theorem dX8_undo_7 : decode cX8_undo 7 = .ok (.bipush (-3), 2) := by decide +kernel
theorem dX8_undo_9 : decode cX8_undo 9 = .ok (.ireturn, 1) := by decide +kernel
theorem dX8_undo_10 : decode cX8_undo 10 = .ok (.aload_n 0, 1) := by decide +kernel
theorem dX8_undo_11 : decode cX8_undo 11 = .ok (.aload_n 0, 1) := by decide +kernel
theorem dX8_undo_12 : decode cX8_undo 12 = .ok (.getfield 148, 3) := by decide +kernel
theorem dX8_undo_15 : decode cX8_undo 15 = .ok (.putfield 47, 3) := by decide +kernel
theorem dX8_undo_18 : decode cX8_undo 18 = .ok (.aload_n 0, 1) := by decide +kernel
theorem dX8_undo_19 : decode cX8_undo 19 = .ok (.aload_n 0, 1) := by decide +kernel
theorem dX8_undo_20 : decode cX8_undo 20 = .ok (.getfield 151, 3) := by decide +kernel
theorem dX8_undo_23 : decode cX8_undo 23 = .ok (.putfield 7, 3) := by decide +kernel
theorem dX8_undo_26 : decode cX8_undo 26 = .ok (.aload_n 0, 1) := by decide +kernel
theorem dX8_undo_27 : decode cX8_undo 27 = .ok (.aload_n 0, 1) := by decide +kernel
theorem dX8_undo_28 : decode cX8_undo 28 = .ok (.getfield 154, 3) := by decide +kernel
theorem dX8_undo_31 : decode cX8_undo 31 = .ok (.putfield 13, 3) := by decide +kernel
theorem dX8_undo_34 : decode cX8_undo 34 = .ok (.aload_n 0, 1) := by decide +kernel
theorem dX8_undo_35 : decode cX8_undo 35 = .ok (.aload_n 0, 1) := by decide +kernel
theorem dX8_undo_36 : decode cX8_undo 36 = .ok (.getfield 157, 3) := by decide +kernel
theorem dX8_undo_39 : decode cX8_undo 39 = .ok (.putfield 16, 3) := by decide +kernel
theorem dX8_undo_42 : decode cX8_undo 42 = .ok (.aload_n 0, 1) := by decide +kernel
theorem dX8_undo_43 : decode cX8_undo 43 = .ok (.aload_n 0, 1) := by decide +kernel
theorem dX8_undo_44 : decode cX8_undo 44 = .ok (.getfield 160, 3) := by decide +kernel
theorem dX8_undo_47 : decode cX8_undo 47 = .ok (.putfield 19, 3) := by decide +kernel
theorem dX8_undo_50 : decode cX8_undo 50 = .ok (.aload_n 0, 1) := by decide +kernel
theorem dX8_undo_51 : decode cX8_undo 51 = .ok (.aload_n 0, 1) := by decide +kernel
theorem dX8_undo_52 : decode cX8_undo 52 = .ok (.getfield 163, 3) := by decide +kernel
theorem dX8_undo_55 : decode cX8_undo 55 = .ok (.putfield 22, 3) := by decide +kernel
theorem dX8_undo_58 : decode cX8_undo 58 = .ok (.aload_n 0, 1) := by decide +kernel
theorem dX8_undo_59 : decode cX8_undo 59 = .ok (.aload_n 0, 1) := by decide +kernel
theorem dX8_undo_60 : decode cX8_undo 60 = .ok (.getfield 166, 3) := by decide +kernel
theorem dX8_undo_63 : decode cX8_undo 63 = .ok (.putfield 25, 3) := by decide +kernel
theorem dX8_undo_66 : decode cX8_undo 66 = .ok (.aload_n 0, 1) := by decide +kernel
theorem dX8_undo_67 : decode cX8_undo 67 = .ok (.aload_n 0, 1) := by decide +kernel
theorem dX8_undo_68 : decode cX8_undo 68 = .ok (.getfield 169, 3) := by decide +kernel
theorem dX8_undo_71 : decode cX8_undo 71 = .ok (.putfield 120, 3) := by decide +kernel
theorem dX8_undo_74 : decode cX8_undo 74 = .ok (.aload_n 0, 1) := by decide +kernel
theorem dX8_undo_75 : decode cX8_undo 75 = .ok (.aload_n 0, 1) := by decide +kernel
theorem dX8_undo_76 : decode cX8_undo 76 = .ok (.getfield 172, 3) := by decide +kernel
theorem dX8_undo_79 : decode cX8_undo 79 = .ok (.putfield 129, 3) := by decide +kernel
theorem dX8_undo_82 : decode cX8_undo 82 = .ok (.aload_n 0, 1) := by decide +kernel
theorem dX8_undo_83 : decode cX8_undo 83 = .ok (.aload_n 0, 1) := by decide +kernel
theorem dX8_undo_84 : decode cX8_undo 84 = .ok (.getfield 175, 3) := by decide +kernel
theorem dX8_undo_87 : decode cX8_undo 87 = .ok (.putfield 135, 3) := by decide +kernel
theorem dX8_undo_90 : decode cX8_undo 90 = .ok (.iconst 0, 1) := by decide +kernel
theorem dX8_undo_91 : decode cX8_undo 91 = .ok (.istore_n 1, 1) := by decide +kernel
theorem dX8_undo_92 : decode cX8_undo 92 = .ok (.iload_n 1, 1) := by decide +kernel
theorem dX8_undo_93 : decode cX8_undo 93 = .ok (.bipush 6, 2) := by decide +kernel
theorem dX8_undo_95 : decode cX8_undo 95 = .ok (.if_icmp .ge 57, 3) := by decide +kernel
theorem dX8_undo_98 : decode cX8_undo 98 = .ok (.aload_n 0, 1) := by decide +kernel
theorem dX8_undo_99 : decode cX8_undo 99 = .ok (.getfield 28, 3) := by decide +kernel
theorem dX8_undo_102 : decode cX8_undo 102 = .ok (.iload_n 1, 1) := by decide +kernel
theorem dX8_undo_103 : decode cX8_undo 103 = .ok (.aload_n 0, 1) := by decide +kernel
theorem dX8_undo_104 : decode cX8_undo 104 = .ok (.getfield 178, 3) := by decide +kernel
theorem dX8_undo_107 : decode cX8_undo 107 = .ok (.iload_n 1, 1) := by decide +kernel
theorem dX8_undo_108 : decode cX8_undo 108 = .ok (.iaload, 1) := by decide +kernel
theorem dX8_undo_109 : decode cX8_undo 109 = .ok (.iastore, 1) := by decide +kernel
theorem dX8_undo_110 : decode cX8_undo 110 = .ok (.aload_n 0, 1) := by decide +kernel
theorem dX8_undo_111 : decode cX8_undo 111 = .ok (.getfield 32, 3) := by decide +kernel
theorem dX8_undo_114 : decode cX8_undo 114 = .ok (.iload_n 1, 1) := by decide +kernel
theorem dX8_undo_115 : decode cX8_undo 115 = .ok (.aload_n 0, 1) := by decide +kernel
theorem dX8_undo_116 : decode cX8_undo 116 = .ok (.getfield 181, 3) := by decide +kernel
theorem dX8_undo_119 : decode cX8_undo 119 = .ok (.iload_n 1, 1) := by decide +kernel
theorem dX8_undo_120 : decode cX8_undo 120 = .ok (.iaload, 1) := by decide +kernel
theorem dX8_undo_121 : decode cX8_undo 121 = .ok (.iastore, 1) := by decide +kernel
theorem dX8_undo_122 : decode cX8_undo 122 = .ok (.aload_n 0, 1) := by decide +kernel
theorem dX8_undo_123 : decode cX8_undo 123 = .ok (.getfield 35, 3) := by decide +kernel
theorem dX8_undo_126 : decode cX8_undo 126 = .ok (.iload_n 1, 1) := by decide +kernel
theorem dX8_undo_127 : decode cX8_undo 127 = .ok (.aload_n 0, 1) := by decide +kernel
theorem dX8_undo_128 : decode cX8_undo 128 = .ok (.getfield 184, 3) := by decide +kernel
theorem dX8_undo_131 : decode cX8_undo 131 = .ok (.iload_n 1, 1) := by decide +kernel
theorem dX8_undo_132 : decode cX8_undo 132 = .ok (.iaload, 1) := by decide +kernel
theorem dX8_undo_133 : decode cX8_undo 133 = .ok (.iastore, 1) := by decide +kernel
theorem dX8_undo_134 : decode cX8_undo 134 = .ok (.aload_n 0, 1) := by decide +kernel
theorem dX8_undo_135 : decode cX8_undo 135 = .ok (.getfield 38, 3) := by decide +kernel
theorem dX8_undo_138 : decode cX8_undo 138 = .ok (.iload_n 1, 1) := by decide +kernel
theorem dX8_undo_139 : decode cX8_undo 139 = .ok (.aload_n 0, 1) := by decide +kernel
theorem dX8_undo_140 : decode cX8_undo 140 = .ok (.getfield 187, 3) := by decide +kernel
theorem dX8_undo_143 : decode cX8_undo 143 = .ok (.iload_n 1, 1) := by decide +kernel
theorem dX8_undo_144 : decode cX8_undo 144 = .ok (.iaload, 1) := by decide +kernel
theorem dX8_undo_145 : decode cX8_undo 145 = .ok (.iastore, 1) := by decide +kernel
theorem dX8_undo_146 : decode cX8_undo 146 = .ok (.iinc 1 1, 3) := by decide +kernel
theorem dX8_undo_149 : decode cX8_undo 149 = .ok (.goto (-57), 3) := by decide +kernel
theorem dX8_undo_152 : decode cX8_undo 152 = .ok (.iconst 0, 1) := by decide +kernel
theorem dX8_undo_153 : decode cX8_undo 153 = .ok (.istore_n 1, 1) := by decide +kernel
theorem dX8_undo_154 : decode cX8_undo 154 = .ok (.iload_n 1, 1) := by decide +kernel
theorem dX8_undo_155 : decode cX8_undo 155 = .ok (.bipush 24, 2) := by decide +kernel
theorem dX8_undo_157 : decode cX8_undo 157 = .ok (.if_icmp .ge 21, 3) := by decide +kernel
theorem dX8_undo_160 : decode cX8_undo 160 = .ok (.aload_n 0, 1) := by decide +kernel
theorem dX8_undo_161 : decode cX8_undo 161 = .ok (.getfield 41, 3) := by decide +kernel
theorem dX8_undo_164 : decode cX8_undo 164 = .ok (.iload_n 1, 1) := by decide +kernel
theorem dX8_undo_165 : decode cX8_undo 165 = .ok (.aload_n 0, 1) := by decide +kernel
theorem dX8_undo_166 : decode cX8_undo 166 = .ok (.getfield 190, 3) := by decide +kernel
theorem dX8_undo_169 : decode cX8_undo 169 = .ok (.iload_n 1, 1) := by decide +kernel
theorem dX8_undo_170 : decode cX8_undo 170 = .ok (.iaload, 1) := by decide +kernel
theorem dX8_undo_171 : decode cX8_undo 171 = .ok (.iastore, 1) := by decide +kernel
theorem dX8_undo_172 : decode cX8_undo 172 = .ok (.iinc 1 1, 3) := by decide +kernel
theorem dX8_undo_175 : decode cX8_undo 175 = .ok (.goto (-21), 3) := by decide +kernel
theorem dX8_undo_178 : decode cX8_undo 178 = .ok (.iconst 0, 1) := by decide +kernel
theorem dX8_undo_179 : decode cX8_undo 179 = .ok (.istore_n 1, 1) := by decide +kernel
theorem dX8_undo_180 : decode cX8_undo 180 = .ok (.iload_n 1, 1) := by decide +kernel
theorem dX8_undo_181 : decode cX8_undo 181 = .ok (.iconst 4, 1) := by decide +kernel
theorem dX8_undo_182 : decode cX8_undo 182 = .ok (.if_icmp .ge 33, 3) := by decide +kernel
theorem dX8_undo_185 : decode cX8_undo 185 = .ok (.aload_n 0, 1) := by decide +kernel
theorem dX8_undo_186 : decode cX8_undo 186 = .ok (.getfield 123, 3) := by decide +kernel
theorem dX8_undo_189 : decode cX8_undo 189 = .ok (.iload_n 1, 1) := by decide +kernel
theorem dX8_undo_190 : decode cX8_undo 190 = .ok (.aload_n 0, 1) := by decide +kernel
theorem dX8_undo_191 : decode cX8_undo 191 = .ok (.getfield 193, 3) := by decide +kernel
theorem dX8_undo_194 : decode cX8_undo 194 = .ok (.iload_n 1, 1) := by decide +kernel
theorem dX8_undo_195 : decode cX8_undo 195 = .ok (.iaload, 1) := by decide +kernel
theorem dX8_undo_196 : decode cX8_undo 196 = .ok (.iastore, 1) := by decide +kernel
theorem dX8_undo_197 : decode cX8_undo 197 = .ok (.aload_n 0, 1) := by decide +kernel
theorem dX8_undo_198 : decode cX8_undo 198 = .ok (.getfield 126, 3) := by decide +kernel
theorem dX8_undo_201 : decode cX8_undo 201 = .ok (.iload_n 1, 1) := by decide +kernel
theorem dX8_undo_202 : decode cX8_undo 202 = .ok (.aload_n 0, 1) := by decide +kernel
theorem dX8_undo_203 : decode cX8_undo 203 = .ok (.getfield 196, 3) := by decide +kernel
theorem dX8_undo_206 : decode cX8_undo 206 = .ok (.iload_n 1, 1) := by decide +kernel
theorem dX8_undo_207 : decode cX8_undo 207 = .ok (.iaload, 1) := by decide +kernel
theorem dX8_undo_208 : decode cX8_undo 208 = .ok (.iastore, 1) := by decide +kernel
theorem dX8_undo_209 : decode cX8_undo 209 = .ok (.iinc 1 1, 3) := by decide +kernel
theorem dX8_undo_212 : decode cX8_undo 212 = .ok (.goto (-32), 3) := by decide +kernel
theorem dX8_undo_215 : decode cX8_undo 215 = .ok (.iconst 0, 1) := by decide +kernel
theorem dX8_undo_216 : decode cX8_undo 216 = .ok (.istore_n 1, 1) := by decide +kernel
theorem dX8_undo_217 : decode cX8_undo 217 = .ok (.iload_n 1, 1) := by decide +kernel
theorem dX8_undo_218 : decode cX8_undo 218 = .ok (.iconst 5, 1) := by decide +kernel
theorem dX8_undo_219 : decode cX8_undo 219 = .ok (.if_icmp .ge 21, 3) := by decide +kernel
theorem dX8_undo_222 : decode cX8_undo 222 = .ok (.aload_n 0, 1) := by decide +kernel
theorem dX8_undo_223 : decode cX8_undo 223 = .ok (.getfield 132, 3) := by decide +kernel
theorem dX8_undo_226 : decode cX8_undo 226 = .ok (.iload_n 1, 1) := by decide +kernel
theorem dX8_undo_227 : decode cX8_undo 227 = .ok (.aload_n 0, 1) := by decide +kernel
theorem dX8_undo_228 : decode cX8_undo 228 = .ok (.getfield 199, 3) := by decide +kernel
theorem dX8_undo_231 : decode cX8_undo 231 = .ok (.iload_n 1, 1) := by decide +kernel
theorem dX8_undo_232 : decode cX8_undo 232 = .ok (.iaload, 1) := by decide +kernel
theorem dX8_undo_233 : decode cX8_undo 233 = .ok (.iastore, 1) := by decide +kernel
theorem dX8_undo_234 : decode cX8_undo 234 = .ok (.iinc 1 1, 3) := by decide +kernel
theorem dX8_undo_237 : decode cX8_undo 237 = .ok (.goto (-20), 3) := by decide +kernel
theorem dX8_undo_240 : decode cX8_undo 240 = .ok (.iconst 0, 1) := by decide +kernel
theorem dX8_undo_241 : decode cX8_undo 241 = .ok (.istore_n 1, 1) := by decide +kernel
theorem dX8_undo_242 : decode cX8_undo 242 = .ok (.iload_n 1, 1) := by decide +kernel
theorem dX8_undo_243 : decode cX8_undo 243 = .ok (.bipush 8, 2) := by decide +kernel
theorem dX8_undo_245 : decode cX8_undo 245 = .ok (.if_icmp .ge 33, 3) := by decide +kernel
theorem dX8_undo_248 : decode cX8_undo 248 = .ok (.aload_n 0, 1) := by decide +kernel
theorem dX8_undo_249 : decode cX8_undo 249 = .ok (.getfield 138, 3) := by decide +kernel
theorem dX8_undo_252 : decode cX8_undo 252 = .ok (.iload_n 1, 1) := by decide +kernel
theorem dX8_undo_253 : decode cX8_undo 253 = .ok (.aload_n 0, 1) := by decide +kernel
theorem dX8_undo_254 : decode cX8_undo 254 = .ok (.getfield 202, 3) := by decide +kernel
theorem dX8_undo_257 : decode cX8_undo 257 = .ok (.iload_n 1, 1) := by decide +kernel
theorem dX8_undo_258 : decode cX8_undo 258 = .ok (.iaload, 1) := by decide +kernel
theorem dX8_undo_259 : decode cX8_undo 259 = .ok (.iastore, 1) := by decide +kernel
theorem dX8_undo_260 : decode cX8_undo 260 = .ok (.aload_n 0, 1) := by decide +kernel
theorem dX8_undo_261 : decode cX8_undo 261 = .ok (.getfield 141, 3) := by decide +kernel
theorem dX8_undo_264 : decode cX8_undo 264 = .ok (.iload_n 1, 1) := by decide +kernel
theorem dX8_undo_265 : decode cX8_undo 265 = .ok (.aload_n 0, 1) := by decide +kernel
theorem dX8_undo_266 : decode cX8_undo 266 = .ok (.getfield 205, 3) := by decide +kernel
theorem dX8_undo_269 : decode cX8_undo 269 = .ok (.iload_n 1, 1) := by decide +kernel
theorem dX8_undo_270 : decode cX8_undo 270 = .ok (.iaload, 1) := by decide +kernel
theorem dX8_undo_271 : decode cX8_undo 271 = .ok (.iastore, 1) := by decide +kernel
theorem dX8_undo_272 : decode cX8_undo 272 = .ok (.iinc 1 1, 3) := by decide +kernel
theorem dX8_undo_275 : decode cX8_undo 275 = .ok (.goto (-33), 3) := by decide +kernel
theorem dX8_undo_278 : decode cX8_undo 278 = .ok (.aload_n 0, 1) := by decide +kernel
theorem dX8_undo_279 : decode cX8_undo 279 = .ok (.getfield 7, 3) := by decide +kernel
theorem dX8_undo_282 : decode cX8_undo 282 = .ok (.ireturn, 1) := by decide +kernel
theorem dX8_body_0 : decode cX8_body 0 = .ok (.aload_n 0, 1) := by decide +kernel
theorem dX8_body_1 : decode cX8_body 1 = .ok (.getfield 208, 3) := by decide +kernel
theorem dX8_body_4 : decode cX8_body 4 = .ok (.bipush 20, 2) := by decide +kernel
theorem dX8_body_6 : decode cX8_body 6 = .ok (.if_icmp .ge 13, 3) := by decide +kernel
theorem dX8_body_9 : decode cX8_body 9 = .ok (.aload_n 0, 1) := by decide +kernel
theorem dX8_body_10 : decode cX8_body 10 = .ok (.getfield 211, 3) := by decide +kernel
theorem dX8_body_13 : decode cX8_body 13 = .ok (.aload_n 0, 1) := by decide +kernel
theorem dX8_body_14 : decode cX8_body 14 = .ok (.getfield 208, 3) := by decide +kernel
theorem dX8_body_17 : decode cX8_body 17 = .ok (.iload_n 1, 1) := by decide +kernel
theorem dX8_body_18 : decode cX8_body 18 = .ok (.iastore, 1) := by decide +kernel
theorem dX8_body_19 : decode cX8_body 19 = .ok (.aload_n 0, 1) := by decide +kernel
theorem dX8_body_20 : decode cX8_body 20 = .ok (.dup, 1) := by decide +kernel
theorem dX8_body_21 : decode cX8_body 21 = .ok (.getfield 208, 3) := by decide +kernel
theorem dX8_body_24 : decode cX8_body 24 = .ok (.iconst 1, 1) := by decide +kernel
theorem dX8_body_25 : decode cX8_body 25 = .ok (.iadd, 1) := by decide +kernel
theorem dX8_body_26 : decode cX8_body 26 = .ok (.putfield 208, 3) := by decide +kernel
theorem dX8_body_29 : decode cX8_body 29 = .ok (.return_, 1) := by decide +kernel
theorem dX8_liftTurns_0 : decode cX8_liftTurns 0 = .ok (.aload_n 0, 1) := by decide +kernel
theorem dX8_liftTurns_1 : decode cX8_liftTurns 1 = .ok (.bipush 10, 2) := by decide +kernel
theorem dX8_liftTurns_3 : decode cX8_liftTurns 3 = .ok (.invokevirtual 376, 3) := by decide +kernel
theorem dX8_liftTurns_6 : decode cX8_liftTurns 6 = .ok (.iload_n 2, 1) := by decide +kernel
theorem dX8_liftTurns_7 : decode cX8_liftTurns 7 = .ok (.iload_n 1, 1) := by decide +kernel
theorem dX8_liftTurns_8 : decode cX8_liftTurns 8 = .ok (.iadd, 1) := by decide +kernel
theorem dX8_liftTurns_9 : decode cX8_liftTurns 9 = .ok (.ireturn, 1) := by decide +kernel
theorem dX8_turnsAct_0 : decode cX8_turnsAct 0 = .ok (.aload_n 0, 1) := by decide +kernel
theorem dX8_turnsAct_1 : decode cX8_turnsAct 1 = .ok (.getfield 28, 3) := by decide +kernel
theorem dX8_turnsAct_4 : decode cX8_turnsAct 4 = .ok (.iload_n 1, 1) := by decide +kernel
theorem dX8_turnsAct_5 : decode cX8_turnsAct 5 = .ok (.iaload, 1) := by decide +kernel
theorem dX8_turnsAct_6 : decode cX8_turnsAct 6 = .ok (.tableswitch 83 2 6 #[34, 83, 49, 34, 63], 34) := by decide +kernel
theorem dX8_turnsAct_40 : decode cX8_turnsAct 40 = .ok (.aload_n 0, 1) := by decide +kernel
theorem dX8_turnsAct_41 : decode cX8_turnsAct 41 = .ok (.bipush 30, 2) := by decide +kernel
theorem dX8_turnsAct_43 : decode cX8_turnsAct 43 = .ok (.invokevirtual 376, 3) := by decide +kernel
theorem dX8_turnsAct_46 : decode cX8_turnsAct 46 = .ok (.aload_n 0, 1) := by decide +kernel
theorem dX8_turnsAct_47 : decode cX8_turnsAct 47 = .ok (.iload_n 1, 1) := by decide +kernel
theorem dX8_turnsAct_48 : decode cX8_turnsAct 48 = .ok (.iload_n 2, 1) := by decide +kernel
theorem dX8_turnsAct_49 : decode cX8_turnsAct 49 = .ok (.iconst 3, 1) := by decide +kernel
theorem dX8_turnsAct_50 : decode cX8_turnsAct 50 = .ok (.imul, 1) := by decide +kernel
theorem dX8_turnsAct_51 : decode cX8_turnsAct 51 = .ok (.invokevirtual 379, 3) := by decide +kernel
theorem dX8_turnsAct_54 : decode cX8_turnsAct 54 = .ok (.ireturn, 1) := by decide +kernel
theorem dX8_turnsAct_55 : decode cX8_turnsAct 55 = .ok (.aload_n 0, 1) := by decide +kernel
theorem dX8_turnsAct_56 : decode cX8_turnsAct 56 = .ok (.bipush 50, 2) := by decide +kernel
theorem dX8_turnsAct_58 : decode cX8_turnsAct 58 = .ok (.invokevirtual 376, 3) := by decide +kernel
theorem dX8_turnsAct_61 : decode cX8_turnsAct 61 = .ok (.aload_n 0, 1) := by decide +kernel
theorem dX8_turnsAct_62 : decode cX8_turnsAct 62 = .ok (.iload_n 1, 1) := by decide +kernel
theorem dX8_turnsAct_63 : decode cX8_turnsAct 63 = .ok (.iload_n 2, 1) := by decide +kernel
theorem dX8_turnsAct_64 : decode cX8_turnsAct 64 = .ok (.invokevirtual 379, 3) := by decide +kernel
theorem dX8_turnsAct_67 : decode cX8_turnsAct 67 = .ok (.ineg, 1) := by decide +kernel
theorem dX8_turnsAct_68 : decode cX8_turnsAct 68 = .ok (.ireturn, 1) := by decide +kernel
theorem dX8_turnsAct_69 : decode cX8_turnsAct 69 = .ok (.aload_n 0, 1) := by decide +kernel
theorem dX8_turnsAct_70 : decode cX8_turnsAct 70 = .ok (.bipush 71, 2) := by decide +kernel
theorem dX8_turnsAct_72 : decode cX8_turnsAct 72 = .ok (.invokevirtual 376, 3) := by decide +kernel
theorem dX8_turnsAct_75 : decode cX8_turnsAct 75 = .ok (.aload_n 0, 1) := by decide +kernel
theorem dX8_turnsAct_76 : decode cX8_turnsAct 76 = .ok (.iload_n 1, 1) := by decide +kernel
theorem dX8_turnsAct_77 : decode cX8_turnsAct 77 = .ok (.iload_n 2, 1) := by decide +kernel
theorem dX8_turnsAct_78 : decode cX8_turnsAct 78 = .ok (.invokevirtual 379, 3) := by decide +kernel
theorem dX8_turnsAct_81 : decode cX8_turnsAct 81 = .ok (.aload_n 0, 1) := by decide +kernel
theorem dX8_turnsAct_82 : decode cX8_turnsAct 82 = .ok (.getfield 32, 3) := by decide +kernel
theorem dX8_turnsAct_85 : decode cX8_turnsAct 85 = .ok (.iload_n 1, 1) := by decide +kernel
theorem dX8_turnsAct_86 : decode cX8_turnsAct 86 = .ok (.iaload, 1) := by decide +kernel
theorem dX8_turnsAct_87 : decode cX8_turnsAct 87 = .ok (.ixor, 1) := by decide +kernel
theorem dX8_turnsAct_88 : decode cX8_turnsAct 88 = .ok (.ireturn, 1) := by decide +kernel
theorem dX8_turnsAct_89 : decode cX8_turnsAct 89 = .ok (.aload_n 0, 1) := by decide +kernel
theorem dX8_turnsAct_90 : decode cX8_turnsAct 90 = .ok (.iload_n 1, 1) := by decide +kernel
theorem dX8_turnsAct_91 : decode cX8_turnsAct 91 = .ok (.iload_n 2, 1) := by decide +kernel
theorem dX8_turnsAct_92 : decode cX8_turnsAct 92 = .ok (.invokevirtual 379, 3) := by decide +kernel
theorem dX8_turnsAct_95 : decode cX8_turnsAct 95 = .ok (.ireturn, 1) := by decide +kernel
theorem dX8_liftClimbs_0 : decode cX8_liftClimbs 0 = .ok (.aload_n 0, 1) := by decide +kernel
theorem dX8_liftClimbs_1 : decode cX8_liftClimbs 1 = .ok (.bipush 11, 2) := by decide +kernel
theorem dX8_liftClimbs_3 : decode cX8_liftClimbs 3 = .ok (.invokevirtual 376, 3) := by decide +kernel
theorem dX8_liftClimbs_6 : decode cX8_liftClimbs 6 = .ok (.aload_n 0, 1) := by decide +kernel
theorem dX8_liftClimbs_7 : decode cX8_liftClimbs 7 = .ok (.iload_n 1, 1) := by decide +kernel
theorem dX8_liftClimbs_8 : decode cX8_liftClimbs 8 = .ok (.iload_n 2, 1) := by decide +kernel
theorem dX8_liftClimbs_9 : decode cX8_liftClimbs 9 = .ok (.invokevirtual 382, 3) := by decide +kernel
theorem dX8_liftClimbs_12 : decode cX8_liftClimbs 12 = .ok (.aload_n 0, 1) := by decide +kernel
theorem dX8_liftClimbs_13 : decode cX8_liftClimbs 13 = .ok (.getfield 32, 3) := by decide +kernel
theorem dX8_liftClimbs_16 : decode cX8_liftClimbs 16 = .ok (.iload_n 1, 1) := by decide +kernel
theorem dX8_liftClimbs_17 : decode cX8_liftClimbs 17 = .ok (.iaload, 1) := by decide +kernel
theorem dX8_liftClimbs_18 : decode cX8_liftClimbs 18 = .ok (.isub, 1) := by decide +kernel
theorem dX8_liftClimbs_19 : decode cX8_liftClimbs 19 = .ok (.ireturn, 1) := by decide +kernel
theorem dX8_strongClimbs_0 : decode cX8_strongClimbs 0 = .ok (.aload_n 0, 1) := by decide +kernel
theorem dX8_strongClimbs_1 : decode cX8_strongClimbs 1 = .ok (.bipush 20, 2) := by decide +kernel
theorem dX8_strongClimbs_3 : decode cX8_strongClimbs 3 = .ok (.invokevirtual 376, 3) := by decide +kernel
theorem dX8_strongClimbs_6 : decode cX8_strongClimbs 6 = .ok (.aload_n 0, 1) := by decide +kernel
theorem dX8_strongClimbs_7 : decode cX8_strongClimbs 7 = .ok (.iload_n 1, 1) := by decide +kernel
theorem dX8_strongClimbs_8 : decode cX8_strongClimbs 8 = .ok (.iload_n 2, 1) := by decide +kernel
theorem dX8_strongClimbs_9 : decode cX8_strongClimbs 9 = .ok (.invokevirtual 385, 3) := by decide +kernel
theorem dX8_strongClimbs_12 : decode cX8_strongClimbs 12 = .ok (.bipush 6, 2) := by decide +kernel
theorem dX8_strongClimbs_14 : decode cX8_strongClimbs 14 = .ok (.ixor, 1) := by decide +kernel
theorem dX8_strongClimbs_15 : decode cX8_strongClimbs 15 = .ok (.ireturn, 1) := by decide +kernel
theorem dX8_climbsAct_0 : decode cX8_climbsAct 0 = .ok (.aload_n 0, 1) := by decide +kernel
theorem dX8_climbsAct_1 : decode cX8_climbsAct 1 = .ok (.getfield 28, 3) := by decide +kernel
theorem dX8_climbsAct_4 : decode cX8_climbsAct 4 = .ok (.iload_n 1, 1) := by decide +kernel
theorem dX8_climbsAct_5 : decode cX8_climbsAct 5 = .ok (.iaload, 1) := by decide +kernel
theorem dX8_climbsAct_6 : decode cX8_climbsAct 6 = .ok (.lookupswitch 78 #[(1, 34), (4, 41), (6, 56)], 34) := by decide +kernel
theorem dX8_climbsAct_40 : decode cX8_climbsAct 40 = .ok (.aload_n 0, 1) := by decide +kernel
theorem dX8_climbsAct_41 : decode cX8_climbsAct 41 = .ok (.iload_n 1, 1) := by decide +kernel
theorem dX8_climbsAct_42 : decode cX8_climbsAct 42 = .ok (.iload_n 2, 1) := by decide +kernel
theorem dX8_climbsAct_43 : decode cX8_climbsAct 43 = .ok (.invokevirtual 388, 3) := by decide +kernel
theorem dX8_climbsAct_46 : decode cX8_climbsAct 46 = .ok (.ireturn, 1) := by decide +kernel
theorem dX8_climbsAct_47 : decode cX8_climbsAct 47 = .ok (.aload_n 0, 1) := by decide +kernel
theorem dX8_climbsAct_48 : decode cX8_climbsAct 48 = .ok (.bipush 51, 2) := by decide +kernel
theorem dX8_climbsAct_50 : decode cX8_climbsAct 50 = .ok (.invokevirtual 376, 3) := by decide +kernel
theorem dX8_climbsAct_53 : decode cX8_climbsAct 53 = .ok (.aload_n 0, 1) := by decide +kernel
theorem dX8_climbsAct_54 : decode cX8_climbsAct 54 = .ok (.iload_n 1, 1) := by decide +kernel
theorem dX8_climbsAct_55 : decode cX8_climbsAct 55 = .ok (.iload_n 2, 1) := by decide +kernel
theorem dX8_climbsAct_56 : decode cX8_climbsAct 56 = .ok (.iconst 1, 1) := by decide +kernel
theorem dX8_climbsAct_57 : decode cX8_climbsAct 57 = .ok (.iadd, 1) := by decide +kernel
theorem dX8_climbsAct_58 : decode cX8_climbsAct 58 = .ok (.invokevirtual 388, 3) := by decide +kernel
theorem dX8_climbsAct_61 : decode cX8_climbsAct 61 = .ok (.ireturn, 1) := by decide +kernel
theorem dX8_climbsAct_62 : decode cX8_climbsAct 62 = .ok (.aload_n 0, 1) := by decide +kernel
theorem dX8_climbsAct_63 : decode cX8_climbsAct 63 = .ok (.bipush 70, 2) := by decide +kernel
theorem dX8_climbsAct_65 : decode cX8_climbsAct 65 = .ok (.invokevirtual 376, 3) := by decide +kernel
theorem dX8_climbsAct_68 : decode cX8_climbsAct 68 = .ok (.aload_n 0, 1) := by decide +kernel
theorem dX8_climbsAct_69 : decode cX8_climbsAct 69 = .ok (.iload_n 1, 1) := by decide +kernel
theorem dX8_climbsAct_70 : decode cX8_climbsAct 70 = .ok (.iload_n 2, 1) := by decide +kernel
theorem dX8_climbsAct_71 : decode cX8_climbsAct 71 = .ok (.invokevirtual 385, 3) := by decide +kernel
theorem dX8_climbsAct_74 : decode cX8_climbsAct 74 = .ok (.istore_n 3, 1) := by decide +kernel
theorem dX8_climbsAct_75 : decode cX8_climbsAct 75 = .ok (.iload_n 3, 1) := by decide +kernel
theorem dX8_climbsAct_76 : decode cX8_climbsAct 76 = .ok (.aload_n 0, 1) := by decide +kernel
theorem dX8_climbsAct_77 : decode cX8_climbsAct 77 = .ok (.iload_n 1, 1) := by decide +kernel
theorem dX8_climbsAct_78 : decode cX8_climbsAct 78 = .ok (.iconst 2, 1) := by decide +kernel
theorem dX8_climbsAct_79 : decode cX8_climbsAct 79 = .ok (.invokevirtual 379, 3) := by decide +kernel
theorem dX8_climbsAct_82 : decode cX8_climbsAct 82 = .ok (.iadd, 1) := by decide +kernel
theorem dX8_climbsAct_83 : decode cX8_climbsAct 83 = .ok (.ireturn, 1) := by decide +kernel
theorem dX8_climbsAct_84 : decode cX8_climbsAct 84 = .ok (.aload_n 0, 1) := by decide +kernel
theorem dX8_climbsAct_85 : decode cX8_climbsAct 85 = .ok (.iload_n 1, 1) := by decide +kernel
theorem dX8_climbsAct_86 : decode cX8_climbsAct 86 = .ok (.iload_n 2, 1) := by decide +kernel
theorem dX8_climbsAct_87 : decode cX8_climbsAct 87 = .ok (.invokevirtual 385, 3) := by decide +kernel
theorem dX8_climbsAct_90 : decode cX8_climbsAct 90 = .ok (.ireturn, 1) := by decide +kernel
theorem dX8_liftTells_0 : decode cX8_liftTells 0 = .ok (.aload_n 0, 1) := by decide +kernel
theorem dX8_liftTells_1 : decode cX8_liftTells 1 = .ok (.bipush 12, 2) := by decide +kernel
theorem dX8_liftTells_3 : decode cX8_liftTells 3 = .ok (.invokevirtual 376, 3) := by decide +kernel
theorem dX8_liftTells_6 : decode cX8_liftTells 6 = .ok (.aload_n 0, 1) := by decide +kernel
theorem dX8_liftTells_7 : decode cX8_liftTells 7 = .ok (.iload_n 1, 1) := by decide +kernel
theorem dX8_liftTells_8 : decode cX8_liftTells 8 = .ok (.iload_n 2, 1) := by decide +kernel
theorem dX8_liftTells_9 : decode cX8_liftTells 9 = .ok (.invokevirtual 391, 3) := by decide +kernel
theorem dX8_liftTells_12 : decode cX8_liftTells 12 = .ok (.iconst 2, 1) := by decide +kernel
theorem dX8_liftTells_13 : decode cX8_liftTells 13 = .ok (.imul, 1) := by decide +kernel
theorem dX8_liftTells_14 : decode cX8_liftTells 14 = .ok (.ireturn, 1) := by decide +kernel
theorem dX8_tellsAct_0 : decode cX8_tellsAct 0 = .ok (.aload_n 0, 1) := by decide +kernel
theorem dX8_tellsAct_1 : decode cX8_tellsAct 1 = .ok (.getfield 28, 3) := by decide +kernel
theorem dX8_tellsAct_4 : decode cX8_tellsAct 4 = .ok (.iload_n 1, 1) := by decide +kernel
theorem dX8_tellsAct_5 : decode cX8_tellsAct 5 = .ok (.iaload, 1) := by decide +kernel
theorem dX8_tellsAct_6 : decode cX8_tellsAct 6 = .ok (.tableswitch 67 3 6 #[30, 67, 52, 30], 30) := by decide +kernel
theorem dX8_tellsAct_36 : decode cX8_tellsAct 36 = .ok (.aload_n 0, 1) := by decide +kernel
theorem dX8_tellsAct_37 : decode cX8_tellsAct 37 = .ok (.bipush 40, 2) := by decide +kernel
theorem dX8_tellsAct_39 : decode cX8_tellsAct 39 = .ok (.invokevirtual 376, 3) := by decide +kernel
theorem dX8_tellsAct_42 : decode cX8_tellsAct 42 = .ok (.aload_n 0, 1) := by decide +kernel
theorem dX8_tellsAct_43 : decode cX8_tellsAct 43 = .ok (.iload_n 1, 1) := by decide +kernel
theorem dX8_tellsAct_44 : decode cX8_tellsAct 44 = .ok (.iload_n 2, 1) := by decide +kernel
theorem dX8_tellsAct_45 : decode cX8_tellsAct 45 = .ok (.invokevirtual 394, 3) := by decide +kernel
theorem dX8_tellsAct_48 : decode cX8_tellsAct 48 = .ok (.istore_n 3, 1) := by decide +kernel
theorem dX8_tellsAct_49 : decode cX8_tellsAct 49 = .ok (.iload_n 3, 1) := by decide +kernel
theorem dX8_tellsAct_50 : decode cX8_tellsAct 50 = .ok (.aload_n 0, 1) := by decide +kernel
theorem dX8_tellsAct_51 : decode cX8_tellsAct 51 = .ok (.iload_n 1, 1) := by decide +kernel
theorem dX8_tellsAct_52 : decode cX8_tellsAct 52 = .ok (.iconst 1, 1) := by decide +kernel
theorem dX8_tellsAct_53 : decode cX8_tellsAct 53 = .ok (.invokevirtual 391, 3) := by decide +kernel
theorem dX8_tellsAct_56 : decode cX8_tellsAct 56 = .ok (.iadd, 1) := by decide +kernel
theorem dX8_tellsAct_57 : decode cX8_tellsAct 57 = .ok (.ireturn, 1) := by decide +kernel
theorem dX8_tellsAct_58 : decode cX8_tellsAct 58 = .ok (.aload_n 0, 1) := by decide +kernel
theorem dX8_tellsAct_59 : decode cX8_tellsAct 59 = .ok (.bipush 60, 2) := by decide +kernel
theorem dX8_tellsAct_61 : decode cX8_tellsAct 61 = .ok (.invokevirtual 376, 3) := by decide +kernel
theorem dX8_tellsAct_64 : decode cX8_tellsAct 64 = .ok (.aload_n 0, 1) := by decide +kernel
theorem dX8_tellsAct_65 : decode cX8_tellsAct 65 = .ok (.iload_n 1, 1) := by decide +kernel
theorem dX8_tellsAct_66 : decode cX8_tellsAct 66 = .ok (.iload_n 2, 1) := by decide +kernel
theorem dX8_tellsAct_67 : decode cX8_tellsAct 67 = .ok (.iload_n 1, 1) := by decide +kernel
theorem dX8_tellsAct_68 : decode cX8_tellsAct 68 = .ok (.isub, 1) := by decide +kernel
theorem dX8_tellsAct_69 : decode cX8_tellsAct 69 = .ok (.invokevirtual 394, 3) := by decide +kernel
theorem dX8_tellsAct_72 : decode cX8_tellsAct 72 = .ok (.ireturn, 1) := by decide +kernel
theorem dX8_tellsAct_73 : decode cX8_tellsAct 73 = .ok (.aload_n 0, 1) := by decide +kernel
theorem dX8_tellsAct_74 : decode cX8_tellsAct 74 = .ok (.iload_n 1, 1) := by decide +kernel
theorem dX8_tellsAct_75 : decode cX8_tellsAct 75 = .ok (.iload_n 2, 1) := by decide +kernel
theorem dX8_tellsAct_76 : decode cX8_tellsAct 76 = .ok (.invokevirtual 394, 3) := by decide +kernel
theorem dX8_tellsAct_79 : decode cX8_tellsAct 79 = .ok (.ireturn, 1) := by decide +kernel
theorem dX8_act_0 : decode cX8_act 0 = .ok (.aload_n 0, 1) := by decide +kernel
theorem dX8_act_1 : decode cX8_act 1 = .ok (.iconst 0, 1) := by decide +kernel
theorem dX8_act_2 : decode cX8_act 2 = .ok (.putfield 208, 3) := by decide +kernel
theorem dX8_act_5 : decode cX8_act 5 = .ok (.aload_n 0, 1) := by decide +kernel
theorem dX8_act_6 : decode cX8_act 6 = .ok (.iload_n 1, 1) := by decide +kernel
theorem dX8_act_7 : decode cX8_act 7 = .ok (.invokevirtual 235, 3) := by decide +kernel
theorem dX8_act_10 : decode cX8_act 10 = .ok (.ifCond .eq 13, 3) := by decide +kernel
theorem dX8_act_13 : decode cX8_act 13 = .ok (.aload_n 0, 1) := by decide +kernel
theorem dX8_act_14 : decode cX8_act 14 = .ok (.iload_n 2, 1) := by decide +kernel
theorem dX8_act_15 : decode cX8_act 15 = .ok (.iconst 0, 1) := by decide +kernel
theorem dX8_act_16 : decode cX8_act 16 = .ok (.iconst 2, 1) := by decide +kernel
theorem dX8_act_17 : decode cX8_act 17 = .ok (.invokevirtual 227, 3) := by decide +kernel
theorem dX8_act_20 : decode cX8_act 20 = .ok (.ifCond .ne 5, 3) := by decide +kernel
theorem dX8_act_23 : decode cX8_act 23 = .ok (.iconst 0, 1) := by decide +kernel
theorem dX8_act_24 : decode cX8_act 24 = .ok (.ireturn, 1) := by decide +kernel
theorem dX8_act_25 : decode cX8_act 25 = .ok (.iload_n 2, 1) := by decide +kernel
theorem dX8_act_26 : decode cX8_act 26 = .ok (.ifCond .ne 12, 3) := by decide +kernel
theorem dX8_act_29 : decode cX8_act 29 = .ok (.aload_n 0, 1) := by decide +kernel
theorem dX8_act_30 : decode cX8_act 30 = .ok (.iload_n 1, 1) := by decide +kernel
theorem dX8_act_31 : decode cX8_act 31 = .ok (.iload_n 3, 1) := by decide +kernel
theorem dX8_act_32 : decode cX8_act 32 = .ok (.invokevirtual 382, 3) := by decide +kernel
theorem dX8_act_35 : decode cX8_act 35 = .ok (.goto 23, 3) := by decide +kernel
theorem dX8_act_38 : decode cX8_act 38 = .ok (.iload_n 2, 1) := by decide +kernel
theorem dX8_act_39 : decode cX8_act 39 = .ok (.iconst 1, 1) := by decide +kernel
theorem dX8_act_40 : decode cX8_act 40 = .ok (.if_icmp .ne 12, 3) := by decide +kernel
theorem dX8_act_43 : decode cX8_act 43 = .ok (.aload_n 0, 1) := by decide +kernel
theorem dX8_act_44 : decode cX8_act 44 = .ok (.iload_n 1, 1) := by decide +kernel
theorem dX8_act_45 : decode cX8_act 45 = .ok (.iload_n 3, 1) := by decide +kernel
theorem dX8_act_46 : decode cX8_act 46 = .ok (.invokevirtual 391, 3) := by decide +kernel
theorem dX8_act_49 : decode cX8_act 49 = .ok (.goto 9, 3) := by decide +kernel
theorem dX8_act_52 : decode cX8_act 52 = .ok (.aload_n 0, 1) := by decide +kernel
theorem dX8_act_53 : decode cX8_act 53 = .ok (.iload_n 1, 1) := by decide +kernel
theorem dX8_act_54 : decode cX8_act 54 = .ok (.iload_n 3, 1) := by decide +kernel
theorem dX8_act_55 : decode cX8_act 55 = .ok (.invokevirtual 397, 3) := by decide +kernel
theorem dX8_act_58 : decode cX8_act 58 = .ok (.ireturn, 1) := by decide +kernel
theorem dX8_trace_0 : decode cX8_trace 0 = .ok (.aload_n 0, 1) := by decide +kernel
theorem dX8_trace_1 : decode cX8_trace 1 = .ok (.iload_n 1, 1) := by decide +kernel
theorem dX8_trace_2 : decode cX8_trace 2 = .ok (.iconst 0, 1) := by decide +kernel
theorem dX8_trace_3 : decode cX8_trace 3 = .ok (.bipush 19, 2) := by decide +kernel
theorem dX8_trace_5 : decode cX8_trace 5 = .ok (.invokevirtual 227, 3) := by decide +kernel
theorem dX8_trace_8 : decode cX8_trace 8 = .ok (.ifCond .eq 20, 3) := by decide +kernel
theorem dX8_trace_11 : decode cX8_trace 11 = .ok (.iload_n 1, 1) := by decide +kernel
theorem dX8_trace_12 : decode cX8_trace 12 = .ok (.aload_n 0, 1) := by decide +kernel
theorem dX8_trace_13 : decode cX8_trace 13 = .ok (.getfield 208, 3) := by decide +kernel
theorem dX8_trace_16 : decode cX8_trace 16 = .ok (.if_icmp .ge 12, 3) := by decide +kernel
theorem dX8_trace_19 : decode cX8_trace 19 = .ok (.aload_n 0, 1) := by decide +kernel
theorem dX8_trace_20 : decode cX8_trace 20 = .ok (.getfield 211, 3) := by decide +kernel
theorem dX8_trace_23 : decode cX8_trace 23 = .ok (.iload_n 1, 1) := by decide +kernel
theorem dX8_trace_24 : decode cX8_trace 24 = .ok (.iaload, 1) := by decide +kernel
theorem dX8_trace_25 : decode cX8_trace 25 = .ok (.goto 4, 3) := by decide +kernel
theorem dX8_trace_28 : decode cX8_trace 28 = .ok (.iconst (-1), 1) := by decide +kernel
theorem dX8_trace_29 : decode cX8_trace 29 = .ok (.ireturn, 1) := by decide +kernel
theorem dX8_taken_0 : decode cX8_taken 0 = .ok (.aload_n 0, 1) := by decide +kernel
theorem dX8_taken_1 : decode cX8_taken 1 = .ok (.iload_n 2, 1) := by decide +kernel
theorem dX8_taken_2 : decode cX8_taken 2 = .ok (.iconst 0, 1) := by decide +kernel
theorem dX8_taken_3 : decode cX8_taken 3 = .ok (.bipush 6, 2) := by decide +kernel
theorem dX8_taken_5 : decode cX8_taken 5 = .ok (.invokevirtual 227, 3) := by decide +kernel
theorem dX8_taken_8 : decode cX8_taken 8 = .ok (.ifCond .ne 6, 3) := by decide +kernel
theorem dX8_taken_11 : decode cX8_taken 11 = .ok (.bipush (-2), 2) := by decide +kernel
theorem dX8_taken_13 : decode cX8_taken 13 = .ok (.ireturn, 1) := by decide +kernel
theorem dX8_taken_14 : decode cX8_taken 14 = .ok (.aload_n 0, 1) := by decide +kernel
theorem dX8_taken_15 : decode cX8_taken 15 = .ok (.iload_n 1, 1) := by decide +kernel
theorem dX8_taken_16 : decode cX8_taken 16 = .ok (.invokevirtual 235, 3) := by decide +kernel
theorem dX8_taken_19 : decode cX8_taken 19 = .ok (.ifCond .ne 6, 3) := by decide +kernel
theorem dX8_taken_22 : decode cX8_taken 22 = .ok (.bipush (-11), 2) := by decide +kernel
theorem dX8_taken_24 : decode cX8_taken 24 = .ok (.ireturn, 1) := by decide +kernel
theorem dX8_taken_25 : decode cX8_taken 25 = .ok (.aload_n 0, 1) := by decide +kernel
theorem dX8_taken_26 : decode cX8_taken 26 = .ok (.getfield 28, 3) := by decide +kernel
theorem dX8_taken_29 : decode cX8_taken 29 = .ok (.iload_n 1, 1) := by decide +kernel
theorem dX8_taken_30 : decode cX8_taken 30 = .ok (.iaload, 1) := by decide +kernel
theorem dX8_taken_31 : decode cX8_taken 31 = .ok (.istore_n 3, 1) := by decide +kernel
theorem dX8_taken_32 : decode cX8_taken 32 = .ok (.iload_n 2, 1) := by decide +kernel
theorem dX8_taken_33 : decode cX8_taken 33 = .ok (.ifCond .eq 39, 3) := by decide +kernel
theorem dX8_taken_36 : decode cX8_taken 36 = .ok (.iload_n 3, 1) := by decide +kernel
theorem dX8_taken_37 : decode cX8_taken 37 = .ok (.iload_n 2, 1) := by decide +kernel
theorem dX8_taken_38 : decode cX8_taken 38 = .ok (.if_icmp .eq 34, 3) := by decide +kernel
theorem dX8_taken_41 : decode cX8_taken 41 = .ok (.iload_n 2, 1) := by decide +kernel
theorem dX8_taken_42 : decode cX8_taken 42 = .ok (.iconst 1, 1) := by decide +kernel
theorem dX8_taken_43 : decode cX8_taken 43 = .ok (.if_icmp .ne 8, 3) := by decide +kernel
theorem dX8_taken_46 : decode cX8_taken 46 = .ok (.iload_n 3, 1) := by decide +kernel
theorem dX8_taken_47 : decode cX8_taken 47 = .ok (.iconst 4, 1) := by decide +kernel
theorem dX8_taken_48 : decode cX8_taken 48 = .ok (.if_icmp .eq 24, 3) := by decide +kernel
theorem dX8_taken_51 : decode cX8_taken 51 = .ok (.iload_n 2, 1) := by decide +kernel
theorem dX8_taken_52 : decode cX8_taken 52 = .ok (.iconst 2, 1) := by decide +kernel
theorem dX8_taken_53 : decode cX8_taken 53 = .ok (.if_icmp .ne 8, 3) := by decide +kernel
theorem dX8_taken_56 : decode cX8_taken 56 = .ok (.iload_n 3, 1) := by decide +kernel
theorem dX8_taken_57 : decode cX8_taken 57 = .ok (.iconst 5, 1) := by decide +kernel
theorem dX8_taken_58 : decode cX8_taken 58 = .ok (.if_icmp .eq 14, 3) := by decide +kernel
theorem dX8_taken_61 : decode cX8_taken 61 = .ok (.iload_n 2, 1) := by decide +kernel
theorem dX8_taken_62 : decode cX8_taken 62 = .ok (.iconst 3, 1) := by decide +kernel
theorem dX8_taken_63 : decode cX8_taken 63 = .ok (.if_icmp .ne 13, 3) := by decide +kernel
theorem dX8_taken_66 : decode cX8_taken 66 = .ok (.iload_n 3, 1) := by decide +kernel
theorem dX8_taken_67 : decode cX8_taken 67 = .ok (.bipush 6, 2) := by decide +kernel
theorem dX8_taken_69 : decode cX8_taken 69 = .ok (.if_icmp .ne 7, 3) := by decide +kernel
theorem dX8_taken_72 : decode cX8_taken 72 = .ok (.iload_n 3, 1) := by decide +kernel
theorem dX8_taken_73 : decode cX8_taken 73 = .ok (.goto 5, 3) := by decide +kernel
theorem dX8_taken_76 : decode cX8_taken 76 = .ok (.bipush (-12), 2) := by decide +kernel
theorem dX8_taken_78 : decode cX8_taken 78 = .ok (.ireturn, 1) := by decide +kernel
theorem dX8_count_0 : decode cX8_count 0 = .ok (.iload_n 1, 1) := by decide +kernel
theorem dX8_count_1 : decode cX8_count 1 = .ok (.tableswitch 78 0 6 #[43, 48, 53, 58, 63, 68, 73], 43) := by decide +kernel
theorem dX8_count_44 : decode cX8_count 44 = .ok (.aload_n 0, 1) := by decide +kernel
theorem dX8_count_45 : decode cX8_count 45 = .ok (.getfield 7, 3) := by decide +kernel
theorem dX8_count_48 : decode cX8_count 48 = .ok (.ireturn, 1) := by decide +kernel
theorem dX8_count_49 : decode cX8_count 49 = .ok (.aload_n 0, 1) := by decide +kernel
theorem dX8_count_50 : decode cX8_count 50 = .ok (.getfield 44, 3) := by decide +kernel
theorem dX8_count_53 : decode cX8_count 53 = .ok (.ireturn, 1) := by decide +kernel
theorem dX8_count_54 : decode cX8_count 54 = .ok (.aload_n 0, 1) := by decide +kernel
theorem dX8_count_55 : decode cX8_count 55 = .ok (.getfield 120, 3) := by decide +kernel
theorem dX8_count_58 : decode cX8_count 58 = .ok (.ireturn, 1) := by decide +kernel
theorem dX8_count_59 : decode cX8_count 59 = .ok (.aload_n 0, 1) := by decide +kernel
theorem dX8_count_60 : decode cX8_count 60 = .ok (.getfield 129, 3) := by decide +kernel
theorem dX8_count_63 : decode cX8_count 63 = .ok (.ireturn, 1) := by decide +kernel
theorem dX8_count_64 : decode cX8_count 64 = .ok (.aload_n 0, 1) := by decide +kernel
theorem dX8_count_65 : decode cX8_count 65 = .ok (.getfield 135, 3) := by decide +kernel
theorem dX8_count_68 : decode cX8_count 68 = .ok (.ireturn, 1) := by decide +kernel
theorem dX8_count_69 : decode cX8_count 69 = .ok (.aload_n 0, 1) := by decide +kernel
theorem dX8_count_70 : decode cX8_count 70 = .ok (.getfield 50, 3) := by decide +kernel
theorem dX8_count_73 : decode cX8_count 73 = .ok (.ireturn, 1) := by decide +kernel
theorem dX8_count_74 : decode cX8_count 74 = .ok (.aload_n 0, 1) := by decide +kernel
theorem dX8_count_75 : decode cX8_count 75 = .ok (.getfield 208, 3) := by decide +kernel
theorem dX8_count_78 : decode cX8_count 78 = .ok (.ireturn, 1) := by decide +kernel
theorem dX8_count_79 : decode cX8_count 79 = .ok (.bipush (-2), 2) := by decide +kernel
theorem dX8_count_81 : decode cX8_count 81 = .ok (.ireturn, 1) := by decide +kernel
theorem dX8_isTape_0 : decode cX8_isTape 0 = .ok (.aload_n 0, 1) := by decide +kernel
theorem dX8_isTape_1 : decode cX8_isTape 1 = .ok (.iload_n 1, 1) := by decide +kernel
theorem dX8_isTape_2 : decode cX8_isTape 2 = .ok (.iconst 0, 1) := by decide +kernel
theorem dX8_isTape_3 : decode cX8_isTape 3 = .ok (.iconst 5, 1) := by decide +kernel
theorem dX8_isTape_4 : decode cX8_isTape 4 = .ok (.invokevirtual 227, 3) := by decide +kernel
theorem dX8_isTape_7 : decode cX8_isTape 7 = .ok (.ireturn, 1) := by decide +kernel
theorem dX8_tape_0 : decode cX8_tape 0 = .ok (.aload_n 0, 1) := by decide +kernel
theorem dX8_tape_1 : decode cX8_tape 1 = .ok (.iload_n 1, 1) := by decide +kernel
theorem dX8_tape_2 : decode cX8_tape 2 = .ok (.invokevirtual 373, 3) := by decide +kernel
theorem dX8_tape_5 : decode cX8_tape 5 = .ok (.ifCond .ne 5, 3) := by decide +kernel
theorem dX8_tape_8 : decode cX8_tape 8 = .ok (.iconst (-1), 1) := by decide +kernel
theorem dX8_tape_9 : decode cX8_tape 9 = .ok (.ireturn, 1) := by decide +kernel
theorem dX8_tape_10 : decode cX8_tape 10 = .ok (.aload_n 0, 1) := by decide +kernel
theorem dX8_tape_11 : decode cX8_tape 11 = .ok (.iload_n 2, 1) := by decide +kernel
theorem dX8_tape_12 : decode cX8_tape 12 = .ok (.iconst (-1), 1) := by decide +kernel
theorem dX8_tape_13 : decode cX8_tape 13 = .ok (.iconst 4, 1) := by decide +kernel
theorem dX8_tape_14 : decode cX8_tape 14 = .ok (.invokevirtual 227, 3) := by decide +kernel
theorem dX8_tape_17 : decode cX8_tape 17 = .ok (.ifCond .eq 13, 3) := by decide +kernel
theorem dX8_tape_20 : decode cX8_tape 20 = .ok (.iload_n 2, 1) := by decide +kernel
theorem dX8_tape_21 : decode cX8_tape 21 = .ok (.ifCond .lt 12, 3) := by decide +kernel
theorem dX8_tape_24 : decode cX8_tape 24 = .ok (.iload_n 3, 1) := by decide +kernel
theorem dX8_tape_25 : decode cX8_tape 25 = .ok (.bipush 60, 2) := by decide +kernel
theorem dX8_tape_27 : decode cX8_tape 27 = .ok (.if_icmp .le 6, 3) := by decide +kernel
theorem dX8_tape_30 : decode cX8_tape 30 = .ok (.bipush (-2), 2) := by decide +kernel
theorem dX8_tape_32 : decode cX8_tape 32 = .ok (.ireturn, 1) := by decide +kernel
theorem dX8_tape_33 : decode cX8_tape 33 = .ok (.iload_n 2, 1) := by decide +kernel
theorem dX8_tape_34 : decode cX8_tape 34 = .ok (.ifCond .lt 10, 3) := by decide +kernel
theorem dX8_tape_37 : decode cX8_tape 37 = .ok (.iload_n 3, 1) := by decide +kernel
theorem dX8_tape_38 : decode cX8_tape 38 = .ok (.ifCond .ge 6, 3) := by decide +kernel
theorem dX8_tape_41 : decode cX8_tape 41 = .ok (.bipush (-14), 2) := by decide +kernel
theorem dX8_tape_43 : decode cX8_tape 43 = .ok (.ireturn, 1) := by decide +kernel
theorem dX8_tape_44 : decode cX8_tape 44 = .ok (.aload_n 0, 1) := by decide +kernel
theorem dX8_tape_45 : decode cX8_tape 45 = .ok (.getfield 214, 3) := by decide +kernel
theorem dX8_tape_48 : decode cX8_tape 48 = .ok (.iload_n 1, 1) := by decide +kernel
theorem dX8_tape_49 : decode cX8_tape 49 = .ok (.iload_n 2, 1) := by decide +kernel
theorem dX8_tape_50 : decode cX8_tape 50 = .ok (.iastore, 1) := by decide +kernel
theorem dX8_tape_51 : decode cX8_tape 51 = .ok (.aload_n 0, 1) := by decide +kernel
theorem dX8_tape_52 : decode cX8_tape 52 = .ok (.getfield 217, 3) := by decide +kernel
theorem dX8_tape_55 : decode cX8_tape 55 = .ok (.iload_n 1, 1) := by decide +kernel
theorem dX8_tape_56 : decode cX8_tape 56 = .ok (.iload_n 2, 1) := by decide +kernel
theorem dX8_tape_57 : decode cX8_tape 57 = .ok (.ifCond .ge 7, 3) := by decide +kernel
theorem dX8_tape_60 : decode cX8_tape 60 = .ok (.iconst 0, 1) := by decide +kernel
theorem dX8_tape_61 : decode cX8_tape 61 = .ok (.goto 4, 3) := by decide +kernel
theorem dX8_tape_64 : decode cX8_tape 64 = .ok (.iload_n 3, 1) := by decide +kernel
theorem dX8_tape_65 : decode cX8_tape 65 = .ok (.iastore, 1) := by decide +kernel
theorem dX8_tape_66 : decode cX8_tape 66 = .ok (.iconst 0, 1) := by decide +kernel
theorem dX8_tape_67 : decode cX8_tape 67 = .ok (.istore 4, 2) := by decide +kernel
theorem dX8_tape_69 : decode cX8_tape 69 = .ok (.iload 4, 2) := by decide +kernel
theorem dX8_tape_71 : decode cX8_tape 71 = .ok (.bipush 60, 2) := by decide +kernel
theorem dX8_tape_73 : decode cX8_tape 73 = .ok (.if_icmp .ge 22, 3) := by decide +kernel
theorem dX8_tape_76 : decode cX8_tape 76 = .ok (.aload_n 0, 1) := by decide +kernel
theorem dX8_tape_77 : decode cX8_tape 77 = .ok (.getfield 220, 3) := by decide +kernel
theorem dX8_tape_80 : decode cX8_tape 80 = .ok (.bipush 60, 2) := by decide +kernel
theorem dX8_tape_82 : decode cX8_tape 82 = .ok (.iload_n 1, 1) := by decide +kernel
theorem dX8_tape_83 : decode cX8_tape 83 = .ok (.imul, 1) := by decide +kernel
theorem dX8_tape_84 : decode cX8_tape 84 = .ok (.iload 4, 2) := by decide +kernel
theorem dX8_tape_86 : decode cX8_tape 86 = .ok (.iadd, 1) := by decide +kernel
theorem dX8_tape_87 : decode cX8_tape 87 = .ok (.lconst 0, 1) := by decide +kernel
theorem dX8_tape_88 : decode cX8_tape 88 = .ok (.lastore, 1) := by decide +kernel
theorem dX8_tape_89 : decode cX8_tape 89 = .ok (.iinc 4 1, 3) := by decide +kernel
theorem dX8_tape_92 : decode cX8_tape 92 = .ok (.goto (-23), 3) := by decide +kernel
theorem dX8_tape_95 : decode cX8_tape 95 = .ok (.iconst 1, 1) := by decide +kernel
theorem dX8_tape_96 : decode cX8_tape 96 = .ok (.ireturn, 1) := by decide +kernel
theorem dX8_narrow_0 : decode cX8_narrow 0 = .ok (.iload_n 1, 1) := by decide +kernel
theorem dX8_narrow_1 : decode cX8_narrow 1 = .ok (.ifCond .ne 10, 3) := by decide +kernel
theorem dX8_narrow_4 : decode cX8_narrow 4 = .ok (.lload_n 2, 1) := by decide +kernel
theorem dX8_narrow_5 : decode cX8_narrow 5 = .ok (.l2i, 1) := by decide +kernel
theorem dX8_narrow_6 : decode cX8_narrow 6 = .ok (.i2b, 1) := by decide +kernel
theorem dX8_narrow_7 : decode cX8_narrow 7 = .ok (.i2l, 1) := by decide +kernel
theorem dX8_narrow_8 : decode cX8_narrow 8 = .ok (.goto 46, 3) := by decide +kernel
theorem dX8_narrow_11 : decode cX8_narrow 11 = .ok (.iload_n 1, 1) := by decide +kernel
theorem dX8_narrow_12 : decode cX8_narrow 12 = .ok (.iconst 1, 1) := by decide +kernel
theorem dX8_narrow_13 : decode cX8_narrow 13 = .ok (.if_icmp .ne 10, 3) := by decide +kernel
theorem dX8_narrow_16 : decode cX8_narrow 16 = .ok (.lload_n 2, 1) := by decide +kernel
theorem dX8_narrow_17 : decode cX8_narrow 17 = .ok (.l2i, 1) := by decide +kernel
theorem dX8_narrow_18 : decode cX8_narrow 18 = .ok (.i2s, 1) := by decide +kernel
theorem dX8_narrow_19 : decode cX8_narrow 19 = .ok (.i2l, 1) := by decide +kernel
theorem dX8_narrow_20 : decode cX8_narrow 20 = .ok (.goto 34, 3) := by decide +kernel
theorem dX8_narrow_23 : decode cX8_narrow 23 = .ok (.iload_n 1, 1) := by decide +kernel
theorem dX8_narrow_24 : decode cX8_narrow 24 = .ok (.iconst 2, 1) := by decide +kernel
theorem dX8_narrow_25 : decode cX8_narrow 25 = .ok (.if_icmp .ne 9, 3) := by decide +kernel
theorem dX8_narrow_28 : decode cX8_narrow 28 = .ok (.lload_n 2, 1) := by decide +kernel
theorem dX8_narrow_29 : decode cX8_narrow 29 = .ok (.l2i, 1) := by decide +kernel
theorem dX8_narrow_30 : decode cX8_narrow 30 = .ok (.i2l, 1) := by decide +kernel
theorem dX8_narrow_31 : decode cX8_narrow 31 = .ok (.goto 23, 3) := by decide +kernel
theorem dX8_narrow_34 : decode cX8_narrow 34 = .ok (.iload_n 1, 1) := by decide +kernel
theorem dX8_narrow_35 : decode cX8_narrow 35 = .ok (.iconst 4, 1) := by decide +kernel
theorem dX8_narrow_36 : decode cX8_narrow 36 = .ok (.if_icmp .ne 17, 3) := by decide +kernel
theorem dX8_narrow_39 : decode cX8_narrow 39 = .ok (.lload_n 2, 1) := by decide +kernel
theorem dX8_narrow_40 : decode cX8_narrow 40 = .ok (.lconst 0, 1) := by decide +kernel
theorem dX8_narrow_41 : decode cX8_narrow 41 = .ok (.lcmp, 1) := by decide +kernel
theorem dX8_narrow_42 : decode cX8_narrow 42 = .ok (.ifCond .eq 7, 3) := by decide +kernel
theorem dX8_narrow_45 : decode cX8_narrow 45 = .ok (.lconst 1, 1) := by decide +kernel
theorem dX8_narrow_46 : decode cX8_narrow 46 = .ok (.goto 8, 3) := by decide +kernel
theorem dX8_narrow_49 : decode cX8_narrow 49 = .ok (.lconst 0, 1) := by decide +kernel
theorem dX8_narrow_50 : decode cX8_narrow 50 = .ok (.goto 4, 3) := by decide +kernel
theorem dX8_narrow_53 : decode cX8_narrow 53 = .ok (.lload_n 2, 1) := by decide +kernel
theorem dX8_narrow_54 : decode cX8_narrow 54 = .ok (.lreturn, 1) := by decide +kernel
theorem dX8_item_0 : decode cX8_item 0 = .ok (.aload_n 0, 1) := by decide +kernel
theorem dX8_item_1 : decode cX8_item 1 = .ok (.iload_n 1, 1) := by decide +kernel
theorem dX8_item_2 : decode cX8_item 2 = .ok (.invokevirtual 373, 3) := by decide +kernel
theorem dX8_item_5 : decode cX8_item 5 = .ok (.ifCond .ne 5, 3) := by decide +kernel
theorem dX8_item_8 : decode cX8_item 8 = .ok (.iconst (-1), 1) := by decide +kernel
theorem dX8_item_9 : decode cX8_item 9 = .ok (.ireturn, 1) := by decide +kernel
theorem dX8_item_10 : decode cX8_item 10 = .ok (.aload_n 0, 1) := by decide +kernel
theorem dX8_item_11 : decode cX8_item 11 = .ok (.getfield 214, 3) := by decide +kernel
theorem dX8_item_14 : decode cX8_item 14 = .ok (.iload_n 1, 1) := by decide +kernel
theorem dX8_item_15 : decode cX8_item 15 = .ok (.iaload, 1) := by decide +kernel
theorem dX8_item_16 : decode cX8_item 16 = .ok (.ifCond .ge 6, 3) := by decide +kernel
theorem dX8_item_19 : decode cX8_item 19 = .ok (.bipush (-11), 2) := by decide +kernel
theorem dX8_item_21 : decode cX8_item 21 = .ok (.ireturn, 1) := by decide +kernel
theorem dX8_item_22 : decode cX8_item 22 = .ok (.aload_n 0, 1) := by decide +kernel
theorem dX8_item_23 : decode cX8_item 23 = .ok (.iload_n 2, 1) := by decide +kernel
theorem dX8_item_24 : decode cX8_item 24 = .ok (.iconst 0, 1) := by decide +kernel
theorem dX8_item_25 : decode cX8_item 25 = .ok (.aload_n 0, 1) := by decide +kernel
theorem dX8_item_26 : decode cX8_item 26 = .ok (.getfield 217, 3) := by decide +kernel
theorem dX8_item_29 : decode cX8_item 29 = .ok (.iload_n 1, 1) := by decide +kernel
theorem dX8_item_30 : decode cX8_item 30 = .ok (.iaload, 1) := by decide +kernel
theorem dX8_item_31 : decode cX8_item 31 = .ok (.iconst 1, 1) := by decide +kernel
theorem dX8_item_32 : decode cX8_item 32 = .ok (.isub, 1) := by decide +kernel
theorem dX8_item_33 : decode cX8_item 33 = .ok (.invokevirtual 227, 3) := by decide +kernel
theorem dX8_item_36 : decode cX8_item 36 = .ok (.ifCond .ne 6, 3) := by decide +kernel
theorem dX8_item_39 : decode cX8_item 39 = .ok (.bipush (-13), 2) := by decide +kernel
theorem dX8_item_41 : decode cX8_item 41 = .ok (.ireturn, 1) := by decide +kernel
theorem dX8_item_42 : decode cX8_item 42 = .ok (.aload_n 0, 1) := by decide +kernel
theorem dX8_item_43 : decode cX8_item 43 = .ok (.getfield 220, 3) := by decide +kernel
theorem dX8_item_46 : decode cX8_item 46 = .ok (.bipush 60, 2) := by decide +kernel
theorem dX8_item_48 : decode cX8_item 48 = .ok (.iload_n 1, 1) := by decide +kernel
theorem dX8_item_49 : decode cX8_item 49 = .ok (.imul, 1) := by decide +kernel
theorem dX8_item_50 : decode cX8_item 50 = .ok (.iload_n 2, 1) := by decide +kernel
theorem dX8_item_51 : decode cX8_item 51 = .ok (.iadd, 1) := by decide +kernel
theorem dX8_item_52 : decode cX8_item 52 = .ok (.aload_n 0, 1) := by decide +kernel
theorem dX8_item_53 : decode cX8_item 53 = .ok (.aload_n 0, 1) := by decide +kernel
theorem dX8_item_54 : decode cX8_item 54 = .ok (.getfield 214, 3) := by decide +kernel
theorem dX8_item_57 : decode cX8_item 57 = .ok (.iload_n 1, 1) := by decide +kernel
theorem dX8_item_58 : decode cX8_item 58 = .ok (.iaload, 1) := by decide +kernel
theorem dX8_item_59 : decode cX8_item 59 = .ok (.lload_n 3, 1) := by decide +kernel
theorem dX8_item_60 : decode cX8_item 60 = .ok (.invokevirtual 400, 3) := by decide +kernel
theorem dX8_item_63 : decode cX8_item 63 = .ok (.lastore, 1) := by decide +kernel
theorem dX8_item_64 : decode cX8_item 64 = .ok (.iconst 1, 1) := by decide +kernel
theorem dX8_item_65 : decode cX8_item 65 = .ok (.ireturn, 1) := by decide +kernel
theorem dX8_read_0 : decode cX8_read 0 = .ok (.aload_n 0, 1) := by decide +kernel
theorem dX8_read_1 : decode cX8_read 1 = .ok (.iload_n 1, 1) := by decide +kernel
theorem dX8_read_2 : decode cX8_read 2 = .ok (.invokevirtual 373, 3) := by decide +kernel
theorem dX8_read_5 : decode cX8_read 5 = .ok (.ifCond .eq 29, 3) := by decide +kernel
theorem dX8_read_8 : decode cX8_read 8 = .ok (.aload_n 0, 1) := by decide +kernel
theorem dX8_read_9 : decode cX8_read 9 = .ok (.getfield 214, 3) := by decide +kernel
theorem dX8_read_12 : decode cX8_read 12 = .ok (.iload_n 1, 1) := by decide +kernel
theorem dX8_read_13 : decode cX8_read 13 = .ok (.iaload, 1) := by decide +kernel
theorem dX8_read_14 : decode cX8_read 14 = .ok (.ifCond .lt 20, 3) := by decide +kernel
theorem dX8_read_17 : decode cX8_read 17 = .ok (.aload_n 0, 1) := by decide +kernel
theorem dX8_read_18 : decode cX8_read 18 = .ok (.iload_n 2, 1) := by decide +kernel
theorem dX8_read_19 : decode cX8_read 19 = .ok (.iconst 0, 1) := by decide +kernel
theorem dX8_read_20 : decode cX8_read 20 = .ok (.aload_n 0, 1) := by decide +kernel
theorem dX8_read_21 : decode cX8_read 21 = .ok (.getfield 217, 3) := by decide +kernel
theorem dX8_read_24 : decode cX8_read 24 = .ok (.iload_n 1, 1) := by decide +kernel
theorem dX8_read_25 : decode cX8_read 25 = .ok (.iaload, 1) := by decide +kernel
theorem dX8_read_26 : decode cX8_read 26 = .ok (.iconst 1, 1) := by decide +kernel
theorem dX8_read_27 : decode cX8_read 27 = .ok (.isub, 1) := by decide +kernel
theorem dX8_read_28 : decode cX8_read 28 = .ok (.invokevirtual 227, 3) := by decide +kernel
theorem dX8_read_31 : decode cX8_read 31 = .ok (.ifCond .ne 9, 3) := by decide +kernel
theorem dX8_read_34 : decode cX8_read 34 = .ok (.ldc2_w 367, 3) := by decide +kernel
theorem dX8_read_37 : decode cX8_read 37 = .ok (.goto 14, 3) := by decide +kernel
theorem dX8_read_40 : decode cX8_read 40 = .ok (.aload_n 0, 1) := by decide +kernel
theorem dX8_read_41 : decode cX8_read 41 = .ok (.getfield 220, 3) := by decide +kernel
theorem dX8_read_44 : decode cX8_read 44 = .ok (.bipush 60, 2) := by decide +kernel
theorem dX8_read_46 : decode cX8_read 46 = .ok (.iload_n 1, 1) := by decide +kernel
theorem dX8_read_47 : decode cX8_read 47 = .ok (.imul, 1) := by decide +kernel
theorem dX8_read_48 : decode cX8_read 48 = .ok (.iload_n 2, 1) := by decide +kernel
theorem dX8_read_49 : decode cX8_read 49 = .ok (.iadd, 1) := by decide +kernel
theorem dX8_read_50 : decode cX8_read 50 = .ok (.laload, 1) := by decide +kernel
theorem dX8_read_51 : decode cX8_read 51 = .ok (.lreturn, 1) := by decide +kernel
theorem dX8_shift_0 : decode cX8_shift 0 = .ok (.aload_n 0, 1) := by decide +kernel
theorem dX8_shift_1 : decode cX8_shift 1 = .ok (.iload_n 1, 1) := by decide +kernel
theorem dX8_shift_2 : decode cX8_shift 2 = .ok (.invokevirtual 373, 3) := by decide +kernel
theorem dX8_shift_5 : decode cX8_shift 5 = .ok (.ifCond .eq 11, 3) := by decide +kernel
theorem dX8_shift_8 : decode cX8_shift 8 = .ok (.aload_n 0, 1) := by decide +kernel
theorem dX8_shift_9 : decode cX8_shift 9 = .ok (.iload_n 3, 1) := by decide +kernel
theorem dX8_shift_10 : decode cX8_shift 10 = .ok (.invokevirtual 373, 3) := by decide +kernel
theorem dX8_shift_13 : decode cX8_shift 13 = .ok (.ifCond .ne 5, 3) := by decide +kernel
theorem dX8_shift_16 : decode cX8_shift 16 = .ok (.iconst (-1), 1) := by decide +kernel
theorem dX8_shift_17 : decode cX8_shift 17 = .ok (.ireturn, 1) := by decide +kernel
theorem dX8_shift_18 : decode cX8_shift 18 = .ok (.aload_n 0, 1) := by decide +kernel
theorem dX8_shift_19 : decode cX8_shift 19 = .ok (.getfield 214, 3) := by decide +kernel
theorem dX8_shift_22 : decode cX8_shift 22 = .ok (.iload_n 1, 1) := by decide +kernel
theorem dX8_shift_23 : decode cX8_shift 23 = .ok (.iaload, 1) := by decide +kernel
theorem dX8_shift_24 : decode cX8_shift 24 = .ok (.ifCond .lt 12, 3) := by decide +kernel
theorem dX8_shift_27 : decode cX8_shift 27 = .ok (.aload_n 0, 1) := by decide +kernel
theorem dX8_shift_28 : decode cX8_shift 28 = .ok (.getfield 214, 3) := by decide +kernel
theorem dX8_shift_31 : decode cX8_shift 31 = .ok (.iload_n 3, 1) := by decide +kernel
theorem dX8_shift_32 : decode cX8_shift 32 = .ok (.iaload, 1) := by decide +kernel
theorem dX8_shift_33 : decode cX8_shift 33 = .ok (.ifCond .ge 6, 3) := by decide +kernel
theorem dX8_shift_36 : decode cX8_shift 36 = .ok (.bipush (-11), 2) := by decide +kernel
theorem dX8_shift_38 : decode cX8_shift 38 = .ok (.ireturn, 1) := by decide +kernel
theorem dX8_shift_39 : decode cX8_shift 39 = .ok (.aload_n 0, 1) := by decide +kernel
theorem dX8_shift_40 : decode cX8_shift 40 = .ok (.getfield 214, 3) := by decide +kernel
theorem dX8_shift_43 : decode cX8_shift 43 = .ok (.iload_n 1, 1) := by decide +kernel
theorem dX8_shift_44 : decode cX8_shift 44 = .ok (.iaload, 1) := by decide +kernel
theorem dX8_shift_45 : decode cX8_shift 45 = .ok (.aload_n 0, 1) := by decide +kernel
theorem dX8_shift_46 : decode cX8_shift 46 = .ok (.getfield 214, 3) := by decide +kernel
theorem dX8_shift_49 : decode cX8_shift 49 = .ok (.iload_n 3, 1) := by decide +kernel
theorem dX8_shift_50 : decode cX8_shift 50 = .ok (.iaload, 1) := by decide +kernel
theorem dX8_shift_51 : decode cX8_shift 51 = .ok (.if_icmp .eq 6, 3) := by decide +kernel
theorem dX8_shift_54 : decode cX8_shift 54 = .ok (.bipush (-12), 2) := by decide +kernel
theorem dX8_shift_56 : decode cX8_shift 56 = .ok (.ireturn, 1) := by decide +kernel
theorem dX8_shift_57 : decode cX8_shift 57 = .ok (.iload 5, 2) := by decide +kernel
theorem dX8_shift_59 : decode cX8_shift 59 = .ok (.ifCond .lt 39, 3) := by decide +kernel
theorem dX8_shift_62 : decode cX8_shift 62 = .ok (.iload_n 2, 1) := by decide +kernel
theorem dX8_shift_63 : decode cX8_shift 63 = .ok (.ifCond .lt 35, 3) := by decide +kernel
theorem dX8_shift_66 : decode cX8_shift 66 = .ok (.iload 4, 2) := by decide +kernel
theorem dX8_shift_68 : decode cX8_shift 68 = .ok (.ifCond .lt 30, 3) := by decide +kernel
theorem dX8_shift_71 : decode cX8_shift 71 = .ok (.iload_n 2, 1) := by decide +kernel
theorem dX8_shift_72 : decode cX8_shift 72 = .ok (.aload_n 0, 1) := by decide +kernel
theorem dX8_shift_73 : decode cX8_shift 73 = .ok (.getfield 217, 3) := by decide +kernel
theorem dX8_shift_76 : decode cX8_shift 76 = .ok (.iload_n 1, 1) := by decide +kernel
theorem dX8_shift_77 : decode cX8_shift 77 = .ok (.iaload, 1) := by decide +kernel
theorem dX8_shift_78 : decode cX8_shift 78 = .ok (.iload 5, 2) := by decide +kernel
theorem dX8_shift_80 : decode cX8_shift 80 = .ok (.isub, 1) := by decide +kernel
theorem dX8_shift_81 : decode cX8_shift 81 = .ok (.if_icmp .gt 17, 3) := by decide +kernel
theorem dX8_shift_84 : decode cX8_shift 84 = .ok (.iload 4, 2) := by decide +kernel
theorem dX8_shift_86 : decode cX8_shift 86 = .ok (.aload_n 0, 1) := by decide +kernel
theorem dX8_shift_87 : decode cX8_shift 87 = .ok (.getfield 217, 3) := by decide +kernel
theorem dX8_shift_90 : decode cX8_shift 90 = .ok (.iload_n 3, 1) := by decide +kernel
theorem dX8_shift_91 : decode cX8_shift 91 = .ok (.iaload, 1) := by decide +kernel
theorem dX8_shift_92 : decode cX8_shift 92 = .ok (.iload 5, 2) := by decide +kernel
theorem dX8_shift_94 : decode cX8_shift 94 = .ok (.isub, 1) := by decide +kernel
theorem dX8_shift_95 : decode cX8_shift 95 = .ok (.if_icmp .le 6, 3) := by decide +kernel
theorem dX8_shift_98 : decode cX8_shift 98 = .ok (.bipush (-13), 2) := by decide +kernel
theorem dX8_shift_100 : decode cX8_shift 100 = .ok (.ireturn, 1) := by decide +kernel
theorem dX8_shift_101 : decode cX8_shift 101 = .ok (.iconst 0, 1) := by decide +kernel
theorem dX8_shift_102 : decode cX8_shift 102 = .ok (.istore 6, 2) := by decide +kernel
theorem dX8_shift_104 : decode cX8_shift 104 = .ok (.iload 6, 2) := by decide +kernel
theorem dX8_shift_106 : decode cX8_shift 106 = .ok (.iload 5, 2) := by decide +kernel
theorem dX8_shift_108 : decode cX8_shift 108 = .ok (.if_icmp .ge 30, 3) := by decide +kernel
theorem dX8_shift_111 : decode cX8_shift 111 = .ok (.aload_n 0, 1) := by decide +kernel
theorem dX8_shift_112 : decode cX8_shift 112 = .ok (.getfield 224, 3) := by decide +kernel
theorem dX8_shift_115 : decode cX8_shift 115 = .ok (.iload 6, 2) := by decide +kernel
theorem dX8_shift_117 : decode cX8_shift 117 = .ok (.aload_n 0, 1) := by decide +kernel
theorem dX8_shift_118 : decode cX8_shift 118 = .ok (.getfield 220, 3) := by decide +kernel
theorem dX8_shift_121 : decode cX8_shift 121 = .ok (.bipush 60, 2) := by decide +kernel
theorem dX8_shift_123 : decode cX8_shift 123 = .ok (.iload_n 1, 1) := by decide +kernel
theorem dX8_shift_124 : decode cX8_shift 124 = .ok (.imul, 1) := by decide +kernel
theorem dX8_shift_125 : decode cX8_shift 125 = .ok (.iload_n 2, 1) := by decide +kernel
theorem dX8_shift_126 : decode cX8_shift 126 = .ok (.iadd, 1) := by decide +kernel
theorem dX8_shift_127 : decode cX8_shift 127 = .ok (.iload 6, 2) := by decide +kernel
theorem dX8_shift_129 : decode cX8_shift 129 = .ok (.iadd, 1) := by decide +kernel
theorem dX8_shift_130 : decode cX8_shift 130 = .ok (.laload, 1) := by decide +kernel
theorem dX8_shift_131 : decode cX8_shift 131 = .ok (.lastore, 1) := by decide +kernel
theorem dX8_shift_132 : decode cX8_shift 132 = .ok (.iinc 6 1, 3) := by decide +kernel
theorem dX8_shift_135 : decode cX8_shift 135 = .ok (.goto (-31), 3) := by decide +kernel
theorem dX8_shift_138 : decode cX8_shift 138 = .ok (.iconst 0, 1) := by decide +kernel
theorem dX8_shift_139 : decode cX8_shift 139 = .ok (.istore 6, 2) := by decide +kernel
theorem dX8_shift_141 : decode cX8_shift 141 = .ok (.iload 6, 2) := by decide +kernel
theorem dX8_shift_143 : decode cX8_shift 143 = .ok (.iload 5, 2) := by decide +kernel
theorem dX8_shift_145 : decode cX8_shift 145 = .ok (.if_icmp .ge 31, 3) := by decide +kernel
theorem dX8_shift_148 : decode cX8_shift 148 = .ok (.aload_n 0, 1) := by decide +kernel
theorem dX8_shift_149 : decode cX8_shift 149 = .ok (.getfield 220, 3) := by decide +kernel
theorem dX8_shift_152 : decode cX8_shift 152 = .ok (.bipush 60, 2) := by decide +kernel
theorem dX8_shift_154 : decode cX8_shift 154 = .ok (.iload_n 3, 1) := by decide +kernel
theorem dX8_shift_155 : decode cX8_shift 155 = .ok (.imul, 1) := by decide +kernel
theorem dX8_shift_156 : decode cX8_shift 156 = .ok (.iload 4, 2) := by decide +kernel
theorem dX8_shift_158 : decode cX8_shift 158 = .ok (.iadd, 1) := by decide +kernel
theorem dX8_shift_159 : decode cX8_shift 159 = .ok (.iload 6, 2) := by decide +kernel
theorem dX8_shift_161 : decode cX8_shift 161 = .ok (.iadd, 1) := by decide +kernel
theorem dX8_shift_162 : decode cX8_shift 162 = .ok (.aload_n 0, 1) := by decide +kernel
theorem dX8_shift_163 : decode cX8_shift 163 = .ok (.getfield 224, 3) := by decide +kernel
theorem dX8_shift_166 : decode cX8_shift 166 = .ok (.iload 6, 2) := by decide +kernel
theorem dX8_shift_168 : decode cX8_shift 168 = .ok (.laload, 1) := by decide +kernel
theorem dX8_shift_169 : decode cX8_shift 169 = .ok (.lastore, 1) := by decide +kernel
theorem dX8_shift_170 : decode cX8_shift 170 = .ok (.iinc 6 1, 3) := by decide +kernel
theorem dX8_shift_173 : decode cX8_shift 173 = .ok (.goto (-32), 3) := by decide +kernel
theorem dX8_shift_176 : decode cX8_shift 176 = .ok (.iload 5, 2) := by decide +kernel
theorem dX8_shift_178 : decode cX8_shift 178 = .ok (.ireturn, 1) := by decide +kernel
theorem dJ11_isValidCodePoint_9a6ad_0 : decode cJ11_isValidCodePoint_9a6ad 0 = .ok (.iload_n 0, 1) := by decide +kernel
theorem dJ11_isValidCodePoint_9a6ad_1 : decode cJ11_isValidCodePoint_9a6ad 1 = .ok (.bipush 16, 2) := by decide +kernel
theorem dJ11_isValidCodePoint_9a6ad_3 : decode cJ11_isValidCodePoint_9a6ad 3 = .ok (.iushr, 1) := by decide +kernel
theorem dJ11_isValidCodePoint_9a6ad_4 : decode cJ11_isValidCodePoint_9a6ad 4 = .ok (.istore_n 1, 1) := by decide +kernel
theorem dJ11_isValidCodePoint_9a6ad_5 : decode cJ11_isValidCodePoint_9a6ad 5 = .ok (.iload_n 1, 1) := by decide +kernel
theorem dJ11_isValidCodePoint_9a6ad_6 : decode cJ11_isValidCodePoint_9a6ad 6 = .ok (.bipush 17, 2) := by decide +kernel
theorem dJ11_isValidCodePoint_9a6ad_8 : decode cJ11_isValidCodePoint_9a6ad 8 = .ok (.if_icmp .ge 7, 3) := by decide +kernel
theorem dJ11_isValidCodePoint_9a6ad_11 : decode cJ11_isValidCodePoint_9a6ad 11 = .ok (.iconst 1, 1) := by decide +kernel
theorem dJ11_isValidCodePoint_9a6ad_12 : decode cJ11_isValidCodePoint_9a6ad 12 = .ok (.goto 4, 3) := by decide +kernel
theorem dJ11_isValidCodePoint_9a6ad_15 : decode cJ11_isValidCodePoint_9a6ad 15 = .ok (.iconst 0, 1) := by decide +kernel
theorem dJ11_isValidCodePoint_9a6ad_16 : decode cJ11_isValidCodePoint_9a6ad 16 = .ok (.ireturn, 1) := by decide +kernel
theorem dJ11_highSurrogate_5068e_0 : decode cJ11_highSurrogate_5068e 0 = .ok (.iload_n 0, 1) := by decide +kernel
theorem dJ11_highSurrogate_5068e_1 : decode cJ11_highSurrogate_5068e 1 = .ok (.bipush 10, 2) := by decide +kernel
theorem dJ11_highSurrogate_5068e_3 : decode cJ11_highSurrogate_5068e 3 = .ok (.iushr, 1) := by decide +kernel
theorem dJ11_highSurrogate_5068e_4 : decode cJ11_highSurrogate_5068e 4 = .ok (.ldc 110, 2) := by decide +kernel
theorem dJ11_highSurrogate_5068e_6 : decode cJ11_highSurrogate_5068e 6 = .ok (.iadd, 1) := by decide +kernel
theorem dJ11_highSurrogate_5068e_7 : decode cJ11_highSurrogate_5068e 7 = .ok (.i2c, 1) := by decide +kernel
theorem dJ11_highSurrogate_5068e_8 : decode cJ11_highSurrogate_5068e 8 = .ok (.ireturn, 1) := by decide +kernel
theorem dJ11_lowSurrogate_5068e_0 : decode cJ11_lowSurrogate_5068e 0 = .ok (.iload_n 0, 1) := by decide +kernel
theorem dJ11_lowSurrogate_5068e_1 : decode cJ11_lowSurrogate_5068e 1 = .ok (.sipush 1023, 3) := by decide +kernel
theorem dJ11_lowSurrogate_5068e_4 : decode cJ11_lowSurrogate_5068e 4 = .ok (.iand, 1) := by decide +kernel
theorem dJ11_lowSurrogate_5068e_5 : decode cJ11_lowSurrogate_5068e 5 = .ok (.ldc 76, 2) := by decide +kernel
theorem dJ11_lowSurrogate_5068e_7 : decode cJ11_lowSurrogate_5068e 7 = .ok (.iadd, 1) := by decide +kernel
theorem dJ11_lowSurrogate_5068e_8 : decode cJ11_lowSurrogate_5068e 8 = .ok (.i2c, 1) := by decide +kernel
theorem dJ11_lowSurrogate_5068e_9 : decode cJ11_lowSurrogate_5068e 9 = .ok (.ireturn, 1) := by decide +kernel
theorem dJ9_abs_0f7a4_0 : decode cJ9_abs_0f7a4 0 = .ok (.iload_n 0, 1) := by decide +kernel
theorem dJ9_abs_0f7a4_1 : decode cJ9_abs_0f7a4 1 = .ok (.ifCond .ge 8, 3) := by decide +kernel
theorem dJ9_abs_0f7a4_4 : decode cJ9_abs_0f7a4 4 = .ok (.iload_n 0, 1) := by decide +kernel
theorem dJ9_abs_0f7a4_5 : decode cJ9_abs_0f7a4 5 = .ok (.ineg, 1) := by decide +kernel
theorem dJ9_abs_0f7a4_6 : decode cJ9_abs_0f7a4 6 = .ok (.goto 4, 3) := by decide +kernel
theorem dJ9_abs_0f7a4_9 : decode cJ9_abs_0f7a4 9 = .ok (.iload_n 0, 1) := by decide +kernel
theorem dJ9_abs_0f7a4_10 : decode cJ9_abs_0f7a4 10 = .ok (.ireturn, 1) := by decide +kernel
theorem dJ9_max_7cf53_0 : decode cJ9_max_7cf53 0 = .ok (.iload_n 0, 1) := by decide +kernel
theorem dJ9_max_7cf53_1 : decode cJ9_max_7cf53 1 = .ok (.iload_n 1, 1) := by decide +kernel
theorem dJ9_max_7cf53_2 : decode cJ9_max_7cf53 2 = .ok (.if_icmp .lt 7, 3) := by decide +kernel
theorem dJ9_max_7cf53_5 : decode cJ9_max_7cf53 5 = .ok (.iload_n 0, 1) := by decide +kernel
theorem dJ9_max_7cf53_6 : decode cJ9_max_7cf53 6 = .ok (.goto 4, 3) := by decide +kernel
theorem dJ9_max_7cf53_9 : decode cJ9_max_7cf53 9 = .ok (.iload_n 1, 1) := by decide +kernel
theorem dJ9_max_7cf53_10 : decode cJ9_max_7cf53 10 = .ok (.ireturn, 1) := by decide +kernel
theorem dJ9_min_7cf53_0 : decode cJ9_min_7cf53 0 = .ok (.iload_n 0, 1) := by decide +kernel
theorem dJ9_min_7cf53_1 : decode cJ9_min_7cf53 1 = .ok (.iload_n 1, 1) := by decide +kernel
theorem dJ9_min_7cf53_2 : decode cJ9_min_7cf53 2 = .ok (.if_icmp .gt 7, 3) := by decide +kernel
theorem dJ9_min_7cf53_5 : decode cJ9_min_7cf53 5 = .ok (.iload_n 0, 1) := by decide +kernel
theorem dJ9_min_7cf53_6 : decode cJ9_min_7cf53 6 = .ok (.goto 4, 3) := by decide +kernel
theorem dJ9_min_7cf53_9 : decode cJ9_min_7cf53 9 = .ok (.iload_n 1, 1) := by decide +kernel
theorem dJ9_min_7cf53_10 : decode cJ9_min_7cf53 10 = .ok (.ireturn, 1) := by decide +kernel
theorem dJ0_length_8abf5_0 : decode cJ0_length_8abf5 0 = .ok (.aload_n 0, 1) := by decide +kernel
theorem dJ0_length_8abf5_1 : decode cJ0_length_8abf5 1 = .ok (.getfield 9, 3) := by decide +kernel
theorem dJ0_length_8abf5_4 : decode cJ0_length_8abf5 4 = .ok (.arraylength, 1) := by decide +kernel
theorem dJ0_length_8abf5_5 : decode cJ0_length_8abf5 5 = .ok (.aload_n 0, 1) := by decide +kernel
theorem dJ0_length_8abf5_6 : decode cJ0_length_8abf5 6 = .ok (.invokevirtual 335, 3) := by decide +kernel
theorem dJ0_length_8abf5_9 : decode cJ0_length_8abf5 9 = .ok (.ishr, 1) := by decide +kernel
theorem dJ0_length_8abf5_10 : decode cJ0_length_8abf5 10 = .ok (.ireturn, 1) := by decide +kernel
theorem dJ0_charAt_5068e_0 : decode cJ0_charAt_5068e 0 = .ok (.aload_n 0, 1) := by decide +kernel
theorem dJ0_charAt_5068e_1 : decode cJ0_charAt_5068e 1 = .ok (.invokevirtual 492, 3) := by decide +kernel
theorem dJ0_charAt_5068e_4 : decode cJ0_charAt_5068e 4 = .ok (.ifCond .eq 12, 3) := by decide +kernel
theorem dJ0_charAt_5068e_7 : decode cJ0_charAt_5068e 7 = .ok (.aload_n 0, 1) := by decide +kernel
theorem dJ0_charAt_5068e_8 : decode cJ0_charAt_5068e 8 = .ok (.getfield 9, 3) := by decide +kernel
theorem dJ0_charAt_5068e_11 : decode cJ0_charAt_5068e 11 = .ok (.iload_n 1, 1) := by decide +kernel
theorem dJ0_charAt_5068e_12 : decode cJ0_charAt_5068e 12 = .ok (.invokestatic 495, 3) := by decide +kernel
theorem dJ0_charAt_5068e_15 : decode cJ0_charAt_5068e 15 = .ok (.ireturn, 1) := by decide +kernel
theorem dJ0_charAt_5068e_16 : decode cJ0_charAt_5068e 16 = .ok (.aload_n 0, 1) := by decide +kernel
theorem dJ0_charAt_5068e_17 : decode cJ0_charAt_5068e 17 = .ok (.getfield 9, 3) := by decide +kernel
theorem dJ0_charAt_5068e_20 : decode cJ0_charAt_5068e 20 = .ok (.iload_n 1, 1) := by decide +kernel
theorem dJ0_charAt_5068e_21 : decode cJ0_charAt_5068e 21 = .ok (.invokestatic 498, 3) := by decide +kernel
theorem dJ0_charAt_5068e_24 : decode cJ0_charAt_5068e 24 = .ok (.ireturn, 1) := by decide +kernel
theorem dJ0_indexOf_0f7a4_0 : decode cJ0_indexOf_0f7a4 0 = .ok (.aload_n 0, 1) := by decide +kernel
theorem dJ0_indexOf_0f7a4_1 : decode cJ0_indexOf_0f7a4 1 = .ok (.iload_n 1, 1) := by decide +kernel
theorem dJ0_indexOf_0f7a4_2 : decode cJ0_indexOf_0f7a4 2 = .ok (.iconst 0, 1) := by decide +kernel
theorem dJ0_indexOf_0f7a4_3 : decode cJ0_indexOf_0f7a4 3 = .ok (.invokevirtual 633, 3) := by decide +kernel
theorem dJ0_indexOf_0f7a4_6 : decode cJ0_indexOf_0f7a4 6 = .ok (.ireturn, 1) := by decide +kernel
theorem dJ0_indexOf_7cf53_0 : decode cJ0_indexOf_7cf53 0 = .ok (.aload_n 0, 1) := by decide +kernel
theorem dJ0_indexOf_7cf53_1 : decode cJ0_indexOf_7cf53 1 = .ok (.invokevirtual 492, 3) := by decide +kernel
theorem dJ0_indexOf_7cf53_4 : decode cJ0_indexOf_7cf53 4 = .ok (.ifCond .eq 19, 3) := by decide +kernel
theorem dJ0_indexOf_7cf53_7 : decode cJ0_indexOf_7cf53 7 = .ok (.aload_n 0, 1) := by decide +kernel
theorem dJ0_indexOf_7cf53_8 : decode cJ0_indexOf_7cf53 8 = .ok (.getfield 9, 3) := by decide +kernel
theorem dJ0_indexOf_7cf53_11 : decode cJ0_indexOf_7cf53 11 = .ok (.iload_n 1, 1) := by decide +kernel
theorem dJ0_indexOf_7cf53_12 : decode cJ0_indexOf_7cf53 12 = .ok (.iload_n 2, 1) := by decide +kernel
theorem dJ0_indexOf_7cf53_13 : decode cJ0_indexOf_7cf53 13 = .ok (.aload_n 0, 1) := by decide +kernel
theorem dJ0_indexOf_7cf53_14 : decode cJ0_indexOf_7cf53 14 = .ok (.invokevirtual 505, 3) := by decide +kernel
theorem dJ0_indexOf_7cf53_17 : decode cJ0_indexOf_7cf53 17 = .ok (.invokestatic 637, 3) := by decide +kernel
theorem dJ0_indexOf_7cf53_20 : decode cJ0_indexOf_7cf53 20 = .ok (.goto 16, 3) := by decide +kernel
theorem dJ0_indexOf_7cf53_23 : decode cJ0_indexOf_7cf53 23 = .ok (.aload_n 0, 1) := by decide +kernel
theorem dJ0_indexOf_7cf53_24 : decode cJ0_indexOf_7cf53 24 = .ok (.getfield 9, 3) := by decide +kernel
theorem dJ0_indexOf_7cf53_27 : decode cJ0_indexOf_7cf53 27 = .ok (.iload_n 1, 1) := by decide +kernel
theorem dJ0_indexOf_7cf53_28 : decode cJ0_indexOf_7cf53 28 = .ok (.iload_n 2, 1) := by decide +kernel
theorem dJ0_indexOf_7cf53_29 : decode cJ0_indexOf_7cf53 29 = .ok (.aload_n 0, 1) := by decide +kernel
theorem dJ0_indexOf_7cf53_30 : decode cJ0_indexOf_7cf53 30 = .ok (.invokevirtual 505, 3) := by decide +kernel
theorem dJ0_indexOf_7cf53_33 : decode cJ0_indexOf_7cf53 33 = .ok (.invokestatic 640, 3) := by decide +kernel
theorem dJ0_indexOf_7cf53_36 : decode cJ0_indexOf_7cf53 36 = .ok (.ireturn, 1) := by decide +kernel
theorem dJ0_coder_7d493_0 : decode cJ0_coder_7d493 0 = .ok (.getstatic 38, 3) := by decide +kernel
theorem dJ0_coder_7d493_3 : decode cJ0_coder_7d493 3 = .ok (.ifCond .eq 10, 3) := by decide +kernel
theorem dJ0_coder_7d493_6 : decode cJ0_coder_7d493 6 = .ok (.aload_n 0, 1) := by decide +kernel
theorem dJ0_coder_7d493_7 : decode cJ0_coder_7d493 7 = .ok (.getfield 15, 3) := by decide +kernel
theorem dJ0_coder_7d493_10 : decode cJ0_coder_7d493 10 = .ok (.goto 4, 3) := by decide +kernel
theorem dJ0_coder_7d493_13 : decode cJ0_coder_7d493 13 = .ok (.iconst 1, 1) := by decide +kernel
theorem dJ0_coder_7d493_14 : decode cJ0_coder_7d493 14 = .ok (.ireturn, 1) := by decide +kernel
theorem dJ0_isLatin1_aae02_0 : decode cJ0_isLatin1_aae02 0 = .ok (.getstatic 38, 3) := by decide +kernel
theorem dJ0_isLatin1_aae02_3 : decode cJ0_isLatin1_aae02 3 = .ok (.ifCond .eq 14, 3) := by decide +kernel
theorem dJ0_isLatin1_aae02_6 : decode cJ0_isLatin1_aae02 6 = .ok (.aload_n 0, 1) := by decide +kernel
theorem dJ0_isLatin1_aae02_7 : decode cJ0_isLatin1_aae02 7 = .ok (.getfield 15, 3) := by decide +kernel
theorem dJ0_isLatin1_aae02_10 : decode cJ0_isLatin1_aae02 10 = .ok (.ifCond .ne 7, 3) := by decide +kernel
theorem dJ0_isLatin1_aae02_13 : decode cJ0_isLatin1_aae02 13 = .ok (.iconst 1, 1) := by decide +kernel
theorem dJ0_isLatin1_aae02_14 : decode cJ0_isLatin1_aae02 14 = .ok (.goto 4, 3) := by decide +kernel
theorem dJ0_isLatin1_aae02_17 : decode cJ0_isLatin1_aae02 17 = .ok (.iconst 0, 1) := by decide +kernel
theorem dJ0_isLatin1_aae02_18 : decode cJ0_isLatin1_aae02 18 = .ok (.ireturn, 1) := by decide +kernel
theorem dJ0_checkIndex_df160_0 : decode cJ0_checkIndex_df160 0 = .ok (.iload_n 0, 1) := by decide +kernel
theorem dJ0_checkIndex_df160_1 : decode cJ0_checkIndex_df160 1 = .ok (.iload_n 1, 1) := by decide +kernel
theorem dJ0_checkIndex_df160_2 : decode cJ0_checkIndex_df160 2 = .ok (.getstatic 1053, 3) := by decide +kernel
theorem dJ0_checkIndex_df160_5 : decode cJ0_checkIndex_df160 5 = .ok (.invokestatic 1059, 3) := by decide +kernel
theorem dJ0_checkIndex_df160_8 : decode cJ0_checkIndex_df160 8 = .ok (.pop, 1) := by decide +kernel
theorem dJ0_checkIndex_df160_9 : decode cJ0_checkIndex_df160 9 = .ok (.return_, 1) := by decide +kernel
theorem dJ0_checkBoundsBeginEnd_23922_0 : decode cJ0_checkBoundsBeginEnd_23922 0 = .ok (.iload_n 0, 1) := by decide +kernel
theorem dJ0_checkBoundsBeginEnd_23922_1 : decode cJ0_checkBoundsBeginEnd_23922 1 = .ok (.iload_n 1, 1) := by decide +kernel
theorem dJ0_checkBoundsBeginEnd_23922_2 : decode cJ0_checkBoundsBeginEnd_23922 2 = .ok (.iload_n 2, 1) := by decide +kernel
theorem dJ0_checkBoundsBeginEnd_23922_3 : decode cJ0_checkBoundsBeginEnd_23922 3 = .ok (.getstatic 1053, 3) := by decide +kernel
theorem dJ0_checkBoundsBeginEnd_23922_6 : decode cJ0_checkBoundsBeginEnd_23922 6 = .ok (.invokestatic 1062, 3) := by decide +kernel
theorem dJ0_checkBoundsBeginEnd_23922_9 : decode cJ0_checkBoundsBeginEnd_23922 9 = .ok (.pop, 1) := by decide +kernel
theorem dJ0_checkBoundsBeginEnd_23922_10 : decode cJ0_checkBoundsBeginEnd_23922 10 = .ok (.return_, 1) := by decide +kernel
theorem dJ1_charAt_3b067_0 : decode cJ1_charAt_3b067 0 = .ok (.iload_n 1, 1) := by decide +kernel
theorem dJ1_charAt_3b067_1 : decode cJ1_charAt_3b067 1 = .ok (.aload_n 0, 1) := by decide +kernel
theorem dJ1_charAt_3b067_2 : decode cJ1_charAt_3b067 2 = .ok (.arraylength, 1) := by decide +kernel
theorem dJ1_charAt_3b067_3 : decode cJ1_charAt_3b067 3 = .ok (.invokestatic 9, 3) := by decide +kernel
theorem dJ1_charAt_3b067_6 : decode cJ1_charAt_3b067 6 = .ok (.aload_n 0, 1) := by decide +kernel
theorem dJ1_charAt_3b067_7 : decode cJ1_charAt_3b067 7 = .ok (.iload_n 1, 1) := by decide +kernel
theorem dJ1_charAt_3b067_8 : decode cJ1_charAt_3b067 8 = .ok (.baload, 1) := by decide +kernel
theorem dJ1_charAt_3b067_9 : decode cJ1_charAt_3b067 9 = .ok (.sipush 255, 3) := by decide +kernel
theorem dJ1_charAt_3b067_12 : decode cJ1_charAt_3b067 12 = .ok (.iand, 1) := by decide +kernel
theorem dJ1_charAt_3b067_13 : decode cJ1_charAt_3b067 13 = .ok (.i2c, 1) := by decide +kernel
theorem dJ1_charAt_3b067_14 : decode cJ1_charAt_3b067 14 = .ok (.ireturn, 1) := by decide +kernel
theorem dJ1_canEncode_9a6ad_0 : decode cJ1_canEncode_9a6ad 0 = .ok (.iload_n 0, 1) := by decide +kernel
theorem dJ1_canEncode_9a6ad_1 : decode cJ1_canEncode_9a6ad 1 = .ok (.ifCond .lt 14, 3) := by decide +kernel
theorem dJ1_canEncode_9a6ad_4 : decode cJ1_canEncode_9a6ad 4 = .ok (.iload_n 0, 1) := by decide +kernel
theorem dJ1_canEncode_9a6ad_5 : decode cJ1_canEncode_9a6ad 5 = .ok (.sipush 255, 3) := by decide +kernel
theorem dJ1_canEncode_9a6ad_8 : decode cJ1_canEncode_9a6ad 8 = .ok (.if_icmp .gt 7, 3) := by decide +kernel
theorem dJ1_canEncode_9a6ad_11 : decode cJ1_canEncode_9a6ad 11 = .ok (.iconst 1, 1) := by decide +kernel
theorem dJ1_canEncode_9a6ad_12 : decode cJ1_canEncode_9a6ad 12 = .ok (.goto 4, 3) := by decide +kernel
theorem dJ1_canEncode_9a6ad_15 : decode cJ1_canEncode_9a6ad 15 = .ok (.iconst 0, 1) := by decide +kernel
theorem dJ1_canEncode_9a6ad_16 : decode cJ1_canEncode_9a6ad 16 = .ok (.ireturn, 1) := by decide +kernel
theorem dJ1_indexOf_4cfef_0 : decode cJ1_indexOf_4cfef 0 = .ok (.iload_n 1, 1) := by decide +kernel
theorem dJ1_indexOf_4cfef_1 : decode cJ1_indexOf_4cfef 1 = .ok (.invokestatic 88, 3) := by decide +kernel
theorem dJ1_indexOf_4cfef_4 : decode cJ1_indexOf_4cfef 4 = .ok (.ifCond .ne 5, 3) := by decide +kernel
theorem dJ1_indexOf_4cfef_7 : decode cJ1_indexOf_4cfef 7 = .ok (.iconst (-1), 1) := by decide +kernel
theorem dJ1_indexOf_4cfef_8 : decode cJ1_indexOf_4cfef 8 = .ok (.ireturn, 1) := by decide +kernel
theorem dJ1_indexOf_4cfef_9 : decode cJ1_indexOf_4cfef 9 = .ok (.iload_n 2, 1) := by decide +kernel
theorem dJ1_indexOf_4cfef_10 : decode cJ1_indexOf_4cfef 10 = .ok (.iconst 0, 1) := by decide +kernel
theorem dJ1_indexOf_4cfef_11 : decode cJ1_indexOf_4cfef 11 = .ok (.invokestatic 92, 3) := by decide +kernel
theorem dJ1_indexOf_4cfef_14 : decode cJ1_indexOf_4cfef 14 = .ok (.istore_n 2, 1) := by decide +kernel
theorem dJ1_indexOf_4cfef_15 : decode cJ1_indexOf_4cfef 15 = .ok (.iload_n 3, 1) := by decide +kernel
theorem dJ1_indexOf_4cfef_16 : decode cJ1_indexOf_4cfef 16 = .ok (.aload_n 0, 1) := by decide +kernel
theorem dJ1_indexOf_4cfef_17 : decode cJ1_indexOf_4cfef 17 = .ok (.arraylength, 1) := by decide +kernel
theorem dJ1_indexOf_4cfef_18 : decode cJ1_indexOf_4cfef 18 = .ok (.invokestatic 38, 3) := by decide +kernel
theorem dJ1_indexOf_4cfef_21 : decode cJ1_indexOf_4cfef 21 = .ok (.istore_n 3, 1) := by decide +kernel
theorem dJ1_indexOf_4cfef_22 : decode cJ1_indexOf_4cfef 22 = .ok (.iload_n 2, 1) := by decide +kernel
theorem dJ1_indexOf_4cfef_23 : decode cJ1_indexOf_4cfef 23 = .ok (.iload_n 3, 1) := by decide +kernel
theorem dJ1_indexOf_4cfef_24 : decode cJ1_indexOf_4cfef 24 = .ok (.if_icmp .lt 5, 3) := by decide +kernel
theorem dJ1_indexOf_4cfef_27 : decode cJ1_indexOf_4cfef 27 = .ok (.iconst (-1), 1) := by decide +kernel
theorem dJ1_indexOf_4cfef_28 : decode cJ1_indexOf_4cfef 28 = .ok (.ireturn, 1) := by decide +kernel
theorem dJ1_indexOf_4cfef_29 : decode cJ1_indexOf_4cfef 29 = .ok (.aload_n 0, 1) := by decide +kernel
theorem dJ1_indexOf_4cfef_30 : decode cJ1_indexOf_4cfef 30 = .ok (.iload_n 1, 1) := by decide +kernel
theorem dJ1_indexOf_4cfef_31 : decode cJ1_indexOf_4cfef 31 = .ok (.iload_n 2, 1) := by decide +kernel
theorem dJ1_indexOf_4cfef_32 : decode cJ1_indexOf_4cfef 32 = .ok (.iload_n 3, 1) := by decide +kernel
theorem dJ1_indexOf_4cfef_33 : decode cJ1_indexOf_4cfef 33 = .ok (.invokestatic 95, 3) := by decide +kernel
theorem dJ1_indexOf_4cfef_36 : decode cJ1_indexOf_4cfef 36 = .ok (.ireturn, 1) := by decide +kernel
theorem dJ1_indexOfChar_4cfef_0 : decode cJ1_indexOfChar_4cfef 0 = .ok (.iload_n 1, 1) := by decide +kernel
theorem dJ1_indexOfChar_4cfef_1 : decode cJ1_indexOfChar_4cfef 1 = .ok (.i2b, 1) := by decide +kernel
theorem dJ1_indexOfChar_4cfef_2 : decode cJ1_indexOfChar_4cfef 2 = .ok (.istore 4, 2) := by decide +kernel
theorem dJ1_indexOfChar_4cfef_4 : decode cJ1_indexOfChar_4cfef 4 = .ok (.iload_n 2, 1) := by decide +kernel
theorem dJ1_indexOfChar_4cfef_5 : decode cJ1_indexOfChar_4cfef 5 = .ok (.istore 5, 2) := by decide +kernel
theorem dJ1_indexOfChar_4cfef_7 : decode cJ1_indexOfChar_4cfef 7 = .ok (.iload 5, 2) := by decide +kernel
theorem dJ1_indexOfChar_4cfef_9 : decode cJ1_indexOfChar_4cfef 9 = .ok (.iload_n 3, 1) := by decide +kernel
theorem dJ1_indexOfChar_4cfef_10 : decode cJ1_indexOfChar_4cfef 10 = .ok (.if_icmp .ge 21, 3) := by decide +kernel
theorem dJ1_indexOfChar_4cfef_13 : decode cJ1_indexOfChar_4cfef 13 = .ok (.aload_n 0, 1) := by decide +kernel
theorem dJ1_indexOfChar_4cfef_14 : decode cJ1_indexOfChar_4cfef 14 = .ok (.iload 5, 2) := by decide +kernel
theorem dJ1_indexOfChar_4cfef_16 : decode cJ1_indexOfChar_4cfef 16 = .ok (.baload, 1) := by decide +kernel
theorem dJ1_indexOfChar_4cfef_17 : decode cJ1_indexOfChar_4cfef 17 = .ok (.iload 4, 2) := by decide +kernel
theorem dJ1_indexOfChar_4cfef_19 : decode cJ1_indexOfChar_4cfef 19 = .ok (.if_icmp .ne 6, 3) := by decide +kernel
theorem dJ1_indexOfChar_4cfef_22 : decode cJ1_indexOfChar_4cfef 22 = .ok (.iload 5, 2) := by decide +kernel
theorem dJ1_indexOfChar_4cfef_24 : decode cJ1_indexOfChar_4cfef 24 = .ok (.ireturn, 1) := by decide +kernel
theorem dJ1_indexOfChar_4cfef_25 : decode cJ1_indexOfChar_4cfef 25 = .ok (.iinc 5 1, 3) := by decide +kernel
theorem dJ1_indexOfChar_4cfef_28 : decode cJ1_indexOfChar_4cfef 28 = .ok (.goto (-21), 3) := by decide +kernel
theorem dJ1_indexOfChar_4cfef_31 : decode cJ1_indexOfChar_4cfef 31 = .ok (.iconst (-1), 1) := by decide +kernel
theorem dJ1_indexOfChar_4cfef_32 : decode cJ1_indexOfChar_4cfef 32 = .ok (.ireturn, 1) := by decide +kernel
theorem dJ2_getChar_3b067_0 : decode cJ2_getChar_3b067 0 = .ok (.getstatic 44, 3) := by decide +kernel
theorem dJ2_getChar_3b067_3 : decode cJ2_getChar_3b067 3 = .ok (.ifCond .ne 25, 3) := by decide +kernel
theorem dJ2_getChar_3b067_6 : decode cJ2_getChar_3b067 6 = .ok (.iload_n 1, 1) := by decide +kernel
theorem dJ2_getChar_3b067_7 : decode cJ2_getChar_3b067 7 = .ok (.ifCond .lt 11, 3) := by decide +kernel
theorem dJ2_getChar_3b067_10 : decode cJ2_getChar_3b067 10 = .ok (.iload_n 1, 1) := by decide +kernel
theorem dJ2_getChar_3b067_11 : decode cJ2_getChar_3b067 11 = .ok (.aload_n 0, 1) := by decide +kernel
theorem dJ2_getChar_3b067_12 : decode cJ2_getChar_3b067 12 = .ok (.invokestatic 48, 3) := by decide +kernel
theorem dJ2_getChar_3b067_15 : decode cJ2_getChar_3b067 15 = .ok (.if_icmp .lt 13, 3) := by decide +kernel
theorem dJ2_getChar_3b067_18 : decode cJ2_getChar_3b067 18 = .ok (.new 52, 3) := by decide +kernel
theorem dJ2_getChar_3b067_21 : decode cJ2_getChar_3b067 21 = .ok (.dup, 1) := by decide +kernel
theorem dJ2_getChar_3b067_22 : decode cJ2_getChar_3b067 22 = .ok (.ldc 54, 2) := by decide +kernel
theorem dJ2_getChar_3b067_24 : decode cJ2_getChar_3b067 24 = .ok (.invokespecial 56, 3) := by decide +kernel
theorem dJ2_getChar_3b067_27 : decode cJ2_getChar_3b067 27 = .ok (.athrow, 1) := by decide +kernel
theorem dJ2_getChar_3b067_28 : decode cJ2_getChar_3b067 28 = .ok (.iload_n 1, 1) := by decide +kernel
theorem dJ2_getChar_3b067_29 : decode cJ2_getChar_3b067 29 = .ok (.iconst 1, 1) := by decide +kernel
theorem dJ2_getChar_3b067_30 : decode cJ2_getChar_3b067 30 = .ok (.ishl, 1) := by decide +kernel
theorem dJ2_getChar_3b067_31 : decode cJ2_getChar_3b067 31 = .ok (.istore_n 1, 1) := by decide +kernel
theorem dJ2_getChar_3b067_32 : decode cJ2_getChar_3b067 32 = .ok (.aload_n 0, 1) := by decide +kernel
theorem dJ2_getChar_3b067_33 : decode cJ2_getChar_3b067 33 = .ok (.iload_n 1, 1) := by decide +kernel
theorem dJ2_getChar_3b067_34 : decode cJ2_getChar_3b067 34 = .ok (.iinc 1 1, 3) := by decide +kernel
theorem dJ2_getChar_3b067_37 : decode cJ2_getChar_3b067 37 = .ok (.baload, 1) := by decide +kernel
theorem dJ2_getChar_3b067_38 : decode cJ2_getChar_3b067 38 = .ok (.sipush 255, 3) := by decide +kernel
theorem dJ2_getChar_3b067_41 : decode cJ2_getChar_3b067 41 = .ok (.iand, 1) := by decide +kernel
theorem dJ2_getChar_3b067_42 : decode cJ2_getChar_3b067 42 = .ok (.getstatic 59, 3) := by decide +kernel
theorem dJ2_getChar_3b067_45 : decode cJ2_getChar_3b067 45 = .ok (.ishl, 1) := by decide +kernel
theorem dJ2_getChar_3b067_46 : decode cJ2_getChar_3b067 46 = .ok (.aload_n 0, 1) := by decide +kernel
theorem dJ2_getChar_3b067_47 : decode cJ2_getChar_3b067 47 = .ok (.iload_n 1, 1) := by decide +kernel
theorem dJ2_getChar_3b067_48 : decode cJ2_getChar_3b067 48 = .ok (.baload, 1) := by decide +kernel
theorem dJ2_getChar_3b067_49 : decode cJ2_getChar_3b067 49 = .ok (.sipush 255, 3) := by decide +kernel
theorem dJ2_getChar_3b067_52 : decode cJ2_getChar_3b067 52 = .ok (.iand, 1) := by decide +kernel
theorem dJ2_getChar_3b067_53 : decode cJ2_getChar_3b067 53 = .ok (.getstatic 63, 3) := by decide +kernel
theorem dJ2_getChar_3b067_56 : decode cJ2_getChar_3b067 56 = .ok (.ishl, 1) := by decide +kernel
theorem dJ2_getChar_3b067_57 : decode cJ2_getChar_3b067 57 = .ok (.ior, 1) := by decide +kernel
theorem dJ2_getChar_3b067_58 : decode cJ2_getChar_3b067 58 = .ok (.i2c, 1) := by decide +kernel
theorem dJ2_getChar_3b067_59 : decode cJ2_getChar_3b067 59 = .ok (.ireturn, 1) := by decide +kernel
theorem dJ2_length_9d52b_0 : decode cJ2_length_9d52b 0 = .ok (.aload_n 0, 1) := by decide +kernel
theorem dJ2_length_9d52b_1 : decode cJ2_length_9d52b 1 = .ok (.arraylength, 1) := by decide +kernel
theorem dJ2_length_9d52b_2 : decode cJ2_length_9d52b 2 = .ok (.iconst 1, 1) := by decide +kernel
theorem dJ2_length_9d52b_3 : decode cJ2_length_9d52b 3 = .ok (.ishr, 1) := by decide +kernel
theorem dJ2_length_9d52b_4 : decode cJ2_length_9d52b 4 = .ok (.ireturn, 1) := by decide +kernel
theorem dJ2_indexOf_4cfef_0 : decode cJ2_indexOf_4cfef 0 = .ok (.iload_n 2, 1) := by decide +kernel
theorem dJ2_indexOf_4cfef_1 : decode cJ2_indexOf_4cfef 1 = .ok (.iconst 0, 1) := by decide +kernel
theorem dJ2_indexOf_4cfef_2 : decode cJ2_indexOf_4cfef 2 = .ok (.invokestatic 224, 3) := by decide +kernel
theorem dJ2_indexOf_4cfef_5 : decode cJ2_indexOf_4cfef 5 = .ok (.istore_n 2, 1) := by decide +kernel
theorem dJ2_indexOf_4cfef_6 : decode cJ2_indexOf_4cfef 6 = .ok (.iload_n 3, 1) := by decide +kernel
theorem dJ2_indexOf_4cfef_7 : decode cJ2_indexOf_4cfef 7 = .ok (.aload_n 0, 1) := by decide +kernel
theorem dJ2_indexOf_4cfef_8 : decode cJ2_indexOf_4cfef 8 = .ok (.arraylength, 1) := by decide +kernel
theorem dJ2_indexOf_4cfef_9 : decode cJ2_indexOf_4cfef 9 = .ok (.iconst 1, 1) := by decide +kernel
theorem dJ2_indexOf_4cfef_10 : decode cJ2_indexOf_4cfef 10 = .ok (.ishr, 1) := by decide +kernel
theorem dJ2_indexOf_4cfef_11 : decode cJ2_indexOf_4cfef 11 = .ok (.invokestatic 183, 3) := by decide +kernel
theorem dJ2_indexOf_4cfef_14 : decode cJ2_indexOf_4cfef 14 = .ok (.istore_n 3, 1) := by decide +kernel
theorem dJ2_indexOf_4cfef_15 : decode cJ2_indexOf_4cfef 15 = .ok (.iload_n 2, 1) := by decide +kernel
theorem dJ2_indexOf_4cfef_16 : decode cJ2_indexOf_4cfef 16 = .ok (.iload_n 3, 1) := by decide +kernel
theorem dJ2_indexOf_4cfef_17 : decode cJ2_indexOf_4cfef 17 = .ok (.if_icmp .lt 5, 3) := by decide +kernel
theorem dJ2_indexOf_4cfef_20 : decode cJ2_indexOf_4cfef 20 = .ok (.iconst (-1), 1) := by decide +kernel
theorem dJ2_indexOf_4cfef_21 : decode cJ2_indexOf_4cfef 21 = .ok (.ireturn, 1) := by decide +kernel
theorem dJ2_indexOf_4cfef_22 : decode cJ2_indexOf_4cfef 22 = .ok (.iload_n 1, 1) := by decide +kernel
theorem dJ2_indexOf_4cfef_23 : decode cJ2_indexOf_4cfef 23 = .ok (.ldc 227, 2) := by decide +kernel
theorem dJ2_indexOf_4cfef_25 : decode cJ2_indexOf_4cfef 25 = .ok (.if_icmp .ge 11, 3) := by decide +kernel
theorem dJ2_indexOf_4cfef_28 : decode cJ2_indexOf_4cfef 28 = .ok (.aload_n 0, 1) := by decide +kernel
theorem dJ2_indexOf_4cfef_29 : decode cJ2_indexOf_4cfef 29 = .ok (.iload_n 1, 1) := by decide +kernel
theorem dJ2_indexOf_4cfef_30 : decode cJ2_indexOf_4cfef 30 = .ok (.iload_n 2, 1) := by decide +kernel
theorem dJ2_indexOf_4cfef_31 : decode cJ2_indexOf_4cfef 31 = .ok (.iload_n 3, 1) := by decide +kernel
theorem dJ2_indexOf_4cfef_32 : decode cJ2_indexOf_4cfef 32 = .ok (.invokestatic 228, 3) := by decide +kernel
theorem dJ2_indexOf_4cfef_35 : decode cJ2_indexOf_4cfef 35 = .ok (.ireturn, 1) := by decide +kernel
theorem dJ2_indexOf_4cfef_36 : decode cJ2_indexOf_4cfef 36 = .ok (.aload_n 0, 1) := by decide +kernel
theorem dJ2_indexOf_4cfef_37 : decode cJ2_indexOf_4cfef 37 = .ok (.iload_n 1, 1) := by decide +kernel
theorem dJ2_indexOf_4cfef_38 : decode cJ2_indexOf_4cfef 38 = .ok (.iload_n 2, 1) := by decide +kernel
theorem dJ2_indexOf_4cfef_39 : decode cJ2_indexOf_4cfef 39 = .ok (.iload_n 3, 1) := by decide +kernel
theorem dJ2_indexOf_4cfef_40 : decode cJ2_indexOf_4cfef 40 = .ok (.invokestatic 232, 3) := by decide +kernel
theorem dJ2_indexOf_4cfef_43 : decode cJ2_indexOf_4cfef 43 = .ok (.ireturn, 1) := by decide +kernel
theorem dJ2_indexOfChar_4cfef_0 : decode cJ2_indexOfChar_4cfef 0 = .ok (.iload_n 2, 1) := by decide +kernel
theorem dJ2_indexOfChar_4cfef_1 : decode cJ2_indexOfChar_4cfef 1 = .ok (.iload_n 3, 1) := by decide +kernel
theorem dJ2_indexOfChar_4cfef_2 : decode cJ2_indexOfChar_4cfef 2 = .ok (.aload_n 0, 1) := by decide +kernel
theorem dJ2_indexOfChar_4cfef_3 : decode cJ2_indexOfChar_4cfef 3 = .ok (.invokestatic 96, 3) := by decide +kernel
theorem dJ2_indexOfChar_4cfef_6 : decode cJ2_indexOfChar_4cfef 6 = .ok (.aload_n 0, 1) := by decide +kernel
theorem dJ2_indexOfChar_4cfef_7 : decode cJ2_indexOfChar_4cfef 7 = .ok (.iload_n 1, 1) := by decide +kernel
theorem dJ2_indexOfChar_4cfef_8 : decode cJ2_indexOfChar_4cfef 8 = .ok (.iload_n 2, 1) := by decide +kernel
theorem dJ2_indexOfChar_4cfef_9 : decode cJ2_indexOfChar_4cfef 9 = .ok (.iload_n 3, 1) := by decide +kernel
theorem dJ2_indexOfChar_4cfef_10 : decode cJ2_indexOfChar_4cfef 10 = .ok (.invokestatic 244, 3) := by decide +kernel
theorem dJ2_indexOfChar_4cfef_13 : decode cJ2_indexOfChar_4cfef 13 = .ok (.ireturn, 1) := by decide +kernel
theorem dJ2_indexOfCharUnsafe_4cfef_0 : decode cJ2_indexOfCharUnsafe_4cfef 0 = .ok (.iload_n 2, 1) := by decide +kernel
theorem dJ2_indexOfCharUnsafe_4cfef_1 : decode cJ2_indexOfCharUnsafe_4cfef 1 = .ok (.istore 4, 2) := by decide +kernel
theorem dJ2_indexOfCharUnsafe_4cfef_3 : decode cJ2_indexOfCharUnsafe_4cfef 3 = .ok (.iload 4, 2) := by decide +kernel
theorem dJ2_indexOfCharUnsafe_4cfef_5 : decode cJ2_indexOfCharUnsafe_4cfef 5 = .ok (.iload_n 3, 1) := by decide +kernel
theorem dJ2_indexOfCharUnsafe_4cfef_6 : decode cJ2_indexOfCharUnsafe_4cfef 6 = .ok (.if_icmp .ge 22, 3) := by decide +kernel
theorem dJ2_indexOfCharUnsafe_4cfef_9 : decode cJ2_indexOfCharUnsafe_4cfef 9 = .ok (.aload_n 0, 1) := by decide +kernel
theorem dJ2_indexOfCharUnsafe_4cfef_10 : decode cJ2_indexOfCharUnsafe_4cfef 10 = .ok (.iload 4, 2) := by decide +kernel
theorem dJ2_indexOfCharUnsafe_4cfef_12 : decode cJ2_indexOfCharUnsafe_4cfef 12 = .ok (.invokestatic 71, 3) := by decide +kernel
theorem dJ2_indexOfCharUnsafe_4cfef_15 : decode cJ2_indexOfCharUnsafe_4cfef 15 = .ok (.iload_n 1, 1) := by decide +kernel
theorem dJ2_indexOfCharUnsafe_4cfef_16 : decode cJ2_indexOfCharUnsafe_4cfef 16 = .ok (.if_icmp .ne 6, 3) := by decide +kernel
theorem dJ2_indexOfCharUnsafe_4cfef_19 : decode cJ2_indexOfCharUnsafe_4cfef 19 = .ok (.iload 4, 2) := by decide +kernel
theorem dJ2_indexOfCharUnsafe_4cfef_21 : decode cJ2_indexOfCharUnsafe_4cfef 21 = .ok (.ireturn, 1) := by decide +kernel
theorem dJ2_indexOfCharUnsafe_4cfef_22 : decode cJ2_indexOfCharUnsafe_4cfef 22 = .ok (.iinc 4 1, 3) := by decide +kernel
theorem dJ2_indexOfCharUnsafe_4cfef_25 : decode cJ2_indexOfCharUnsafe_4cfef 25 = .ok (.goto (-22), 3) := by decide +kernel
theorem dJ2_indexOfCharUnsafe_4cfef_28 : decode cJ2_indexOfCharUnsafe_4cfef 28 = .ok (.iconst (-1), 1) := by decide +kernel
theorem dJ2_indexOfCharUnsafe_4cfef_29 : decode cJ2_indexOfCharUnsafe_4cfef 29 = .ok (.ireturn, 1) := by decide +kernel
theorem dJ2_indexOfSupplementary_4cfef_0 : decode cJ2_indexOfSupplementary_4cfef 0 = .ok (.iload_n 1, 1) := by decide +kernel
theorem dJ2_indexOfSupplementary_4cfef_1 : decode cJ2_indexOfSupplementary_4cfef 1 = .ok (.invokestatic 164, 3) := by decide +kernel
theorem dJ2_indexOfSupplementary_4cfef_4 : decode cJ2_indexOfSupplementary_4cfef 4 = .ok (.ifCond .eq 65, 3) := by decide +kernel
theorem dJ2_indexOfSupplementary_4cfef_7 : decode cJ2_indexOfSupplementary_4cfef 7 = .ok (.iload_n 1, 1) := by decide +kernel
theorem dJ2_indexOfSupplementary_4cfef_8 : decode cJ2_indexOfSupplementary_4cfef 8 = .ok (.invokestatic 157, 3) := by decide +kernel
theorem dJ2_indexOfSupplementary_4cfef_11 : decode cJ2_indexOfSupplementary_4cfef 11 = .ok (.istore 4, 2) := by decide +kernel
theorem dJ2_indexOfSupplementary_4cfef_13 : decode cJ2_indexOfSupplementary_4cfef 13 = .ok (.iload_n 1, 1) := by decide +kernel
theorem dJ2_indexOfSupplementary_4cfef_14 : decode cJ2_indexOfSupplementary_4cfef 14 = .ok (.invokestatic 161, 3) := by decide +kernel
theorem dJ2_indexOfSupplementary_4cfef_17 : decode cJ2_indexOfSupplementary_4cfef 17 = .ok (.istore 5, 2) := by decide +kernel
theorem dJ2_indexOfSupplementary_4cfef_19 : decode cJ2_indexOfSupplementary_4cfef 19 = .ok (.iload_n 2, 1) := by decide +kernel
theorem dJ2_indexOfSupplementary_4cfef_20 : decode cJ2_indexOfSupplementary_4cfef 20 = .ok (.iload_n 3, 1) := by decide +kernel
theorem dJ2_indexOfSupplementary_4cfef_21 : decode cJ2_indexOfSupplementary_4cfef 21 = .ok (.aload_n 0, 1) := by decide +kernel
theorem dJ2_indexOfSupplementary_4cfef_22 : decode cJ2_indexOfSupplementary_4cfef 22 = .ok (.invokestatic 96, 3) := by decide +kernel
theorem dJ2_indexOfSupplementary_4cfef_25 : decode cJ2_indexOfSupplementary_4cfef 25 = .ok (.iload_n 2, 1) := by decide +kernel
theorem dJ2_indexOfSupplementary_4cfef_26 : decode cJ2_indexOfSupplementary_4cfef 26 = .ok (.istore 6, 2) := by decide +kernel
theorem dJ2_indexOfSupplementary_4cfef_28 : decode cJ2_indexOfSupplementary_4cfef 28 = .ok (.iload 6, 2) := by decide +kernel
theorem dJ2_indexOfSupplementary_4cfef_30 : decode cJ2_indexOfSupplementary_4cfef 30 = .ok (.iload_n 3, 1) := by decide +kernel
theorem dJ2_indexOfSupplementary_4cfef_31 : decode cJ2_indexOfSupplementary_4cfef 31 = .ok (.iconst 1, 1) := by decide +kernel
theorem dJ2_indexOfSupplementary_4cfef_32 : decode cJ2_indexOfSupplementary_4cfef 32 = .ok (.isub, 1) := by decide +kernel
theorem dJ2_indexOfSupplementary_4cfef_33 : decode cJ2_indexOfSupplementary_4cfef 33 = .ok (.if_icmp .ge 36, 3) := by decide +kernel
theorem dJ2_indexOfSupplementary_4cfef_36 : decode cJ2_indexOfSupplementary_4cfef 36 = .ok (.aload_n 0, 1) := by decide +kernel
theorem dJ2_indexOfSupplementary_4cfef_37 : decode cJ2_indexOfSupplementary_4cfef 37 = .ok (.iload 6, 2) := by decide +kernel
theorem dJ2_indexOfSupplementary_4cfef_39 : decode cJ2_indexOfSupplementary_4cfef 39 = .ok (.invokestatic 71, 3) := by decide +kernel
theorem dJ2_indexOfSupplementary_4cfef_42 : decode cJ2_indexOfSupplementary_4cfef 42 = .ok (.iload 4, 2) := by decide +kernel
theorem dJ2_indexOfSupplementary_4cfef_44 : decode cJ2_indexOfSupplementary_4cfef 44 = .ok (.if_icmp .ne 19, 3) := by decide +kernel
theorem dJ2_indexOfSupplementary_4cfef_47 : decode cJ2_indexOfSupplementary_4cfef 47 = .ok (.aload_n 0, 1) := by decide +kernel
theorem dJ2_indexOfSupplementary_4cfef_48 : decode cJ2_indexOfSupplementary_4cfef 48 = .ok (.iload 6, 2) := by decide +kernel
theorem dJ2_indexOfSupplementary_4cfef_50 : decode cJ2_indexOfSupplementary_4cfef 50 = .ok (.iconst 1, 1) := by decide +kernel
theorem dJ2_indexOfSupplementary_4cfef_51 : decode cJ2_indexOfSupplementary_4cfef 51 = .ok (.iadd, 1) := by decide +kernel
theorem dJ2_indexOfSupplementary_4cfef_52 : decode cJ2_indexOfSupplementary_4cfef 52 = .ok (.invokestatic 71, 3) := by decide +kernel
theorem dJ2_indexOfSupplementary_4cfef_55 : decode cJ2_indexOfSupplementary_4cfef 55 = .ok (.iload 5, 2) := by decide +kernel
theorem dJ2_indexOfSupplementary_4cfef_57 : decode cJ2_indexOfSupplementary_4cfef 57 = .ok (.if_icmp .ne 6, 3) := by decide +kernel
theorem dJ2_indexOfSupplementary_4cfef_60 : decode cJ2_indexOfSupplementary_4cfef 60 = .ok (.iload 6, 2) := by decide +kernel
theorem dJ2_indexOfSupplementary_4cfef_62 : decode cJ2_indexOfSupplementary_4cfef 62 = .ok (.ireturn, 1) := by decide +kernel
theorem dJ2_indexOfSupplementary_4cfef_63 : decode cJ2_indexOfSupplementary_4cfef 63 = .ok (.iinc 6 1, 3) := by decide +kernel
theorem dJ2_indexOfSupplementary_4cfef_66 : decode cJ2_indexOfSupplementary_4cfef 66 = .ok (.goto (-38), 3) := by decide +kernel
theorem dJ2_indexOfSupplementary_4cfef_69 : decode cJ2_indexOfSupplementary_4cfef 69 = .ok (.iconst (-1), 1) := by decide +kernel
theorem dJ2_indexOfSupplementary_4cfef_70 : decode cJ2_indexOfSupplementary_4cfef 70 = .ok (.ireturn, 1) := by decide +kernel
theorem dJ2_charAt_3b067_0 : decode cJ2_charAt_3b067 0 = .ok (.iload_n 1, 1) := by decide +kernel
theorem dJ2_charAt_3b067_1 : decode cJ2_charAt_3b067 1 = .ok (.aload_n 0, 1) := by decide +kernel
theorem dJ2_charAt_3b067_2 : decode cJ2_charAt_3b067 2 = .ok (.invokestatic 67, 3) := by decide +kernel
theorem dJ2_charAt_3b067_5 : decode cJ2_charAt_3b067 5 = .ok (.aload_n 0, 1) := by decide +kernel
theorem dJ2_charAt_3b067_6 : decode cJ2_charAt_3b067 6 = .ok (.iload_n 1, 1) := by decide +kernel
theorem dJ2_charAt_3b067_7 : decode cJ2_charAt_3b067 7 = .ok (.invokestatic 71, 3) := by decide +kernel
theorem dJ2_charAt_3b067_10 : decode cJ2_charAt_3b067 10 = .ok (.ireturn, 1) := by decide +kernel
theorem dJ2_checkIndex_2214a_0 : decode cJ2_checkIndex_2214a 0 = .ok (.iload_n 0, 1) := by decide +kernel
theorem dJ2_checkIndex_2214a_1 : decode cJ2_checkIndex_2214a 1 = .ok (.aload_n 1, 1) := by decide +kernel
theorem dJ2_checkIndex_2214a_2 : decode cJ2_checkIndex_2214a 2 = .ok (.invokestatic 48, 3) := by decide +kernel
theorem dJ2_checkIndex_2214a_5 : decode cJ2_checkIndex_2214a 5 = .ok (.invokestatic 414, 3) := by decide +kernel
theorem dJ2_checkIndex_2214a_8 : decode cJ2_checkIndex_2214a 8 = .ok (.return_, 1) := by decide +kernel
theorem dJ2_checkBoundsBeginEnd_d044e_0 : decode cJ2_checkBoundsBeginEnd_d044e 0 = .ok (.iload_n 0, 1) := by decide +kernel
theorem dJ2_checkBoundsBeginEnd_d044e_1 : decode cJ2_checkBoundsBeginEnd_d044e 1 = .ok (.iload_n 1, 1) := by decide +kernel
theorem dJ2_checkBoundsBeginEnd_d044e_2 : decode cJ2_checkBoundsBeginEnd_d044e 2 = .ok (.aload_n 2, 1) := by decide +kernel
theorem dJ2_checkBoundsBeginEnd_d044e_3 : decode cJ2_checkBoundsBeginEnd_d044e 3 = .ok (.invokestatic 48, 3) := by decide +kernel
theorem dJ2_checkBoundsBeginEnd_d044e_6 : decode cJ2_checkBoundsBeginEnd_d044e 6 = .ok (.invokestatic 241, 3) := by decide +kernel
theorem dJ2_checkBoundsBeginEnd_d044e_9 : decode cJ2_checkBoundsBeginEnd_d044e 9 = .ok (.return_, 1) := by decide +kernel
theorem dJ7_fill_d0a16_0 : decode cJ7_fill_d0a16 0 = .ok (.iconst 0, 1) := by decide +kernel
theorem dJ7_fill_d0a16_1 : decode cJ7_fill_d0a16 1 = .ok (.istore_n 3, 1) := by decide +kernel
theorem dJ7_fill_d0a16_2 : decode cJ7_fill_d0a16 2 = .ok (.aload_n 0, 1) := by decide +kernel
theorem dJ7_fill_d0a16_3 : decode cJ7_fill_d0a16 3 = .ok (.arraylength, 1) := by decide +kernel
theorem dJ7_fill_d0a16_4 : decode cJ7_fill_d0a16 4 = .ok (.istore 4, 2) := by decide +kernel
theorem dJ7_fill_d0a16_6 : decode cJ7_fill_d0a16 6 = .ok (.iload_n 3, 1) := by decide +kernel
theorem dJ7_fill_d0a16_7 : decode cJ7_fill_d0a16 7 = .ok (.iload 4, 2) := by decide +kernel
theorem dJ7_fill_d0a16_9 : decode cJ7_fill_d0a16 9 = .ok (.if_icmp .ge 13, 3) := by decide +kernel
theorem dJ7_fill_d0a16_12 : decode cJ7_fill_d0a16 12 = .ok (.aload_n 0, 1) := by decide +kernel
theorem dJ7_fill_d0a16_13 : decode cJ7_fill_d0a16 13 = .ok (.iload_n 3, 1) := by decide +kernel
theorem dJ7_fill_d0a16_14 : decode cJ7_fill_d0a16 14 = .ok (.lload_n 1, 1) := by decide +kernel
theorem dJ7_fill_d0a16_15 : decode cJ7_fill_d0a16 15 = .ok (.lastore, 1) := by decide +kernel
theorem dJ7_fill_d0a16_16 : decode cJ7_fill_d0a16 16 = .ok (.iinc 3 1, 3) := by decide +kernel
theorem dJ7_fill_d0a16_19 : decode cJ7_fill_d0a16 19 = .ok (.goto (-13), 3) := by decide +kernel
theorem dJ7_fill_d0a16_22 : decode cJ7_fill_d0a16 22 = .ok (.return_, 1) := by decide +kernel
theorem dJ7_fill_53178_0 : decode cJ7_fill_53178 0 = .ok (.iconst 0, 1) := by decide +kernel
theorem dJ7_fill_53178_1 : decode cJ7_fill_53178 1 = .ok (.istore_n 2, 1) := by decide +kernel
theorem dJ7_fill_53178_2 : decode cJ7_fill_53178 2 = .ok (.aload_n 0, 1) := by decide +kernel
theorem dJ7_fill_53178_3 : decode cJ7_fill_53178 3 = .ok (.arraylength, 1) := by decide +kernel
theorem dJ7_fill_53178_4 : decode cJ7_fill_53178 4 = .ok (.istore_n 3, 1) := by decide +kernel
theorem dJ7_fill_53178_5 : decode cJ7_fill_53178 5 = .ok (.iload_n 2, 1) := by decide +kernel
theorem dJ7_fill_53178_6 : decode cJ7_fill_53178 6 = .ok (.iload_n 3, 1) := by decide +kernel
theorem dJ7_fill_53178_7 : decode cJ7_fill_53178 7 = .ok (.if_icmp .ge 13, 3) := by decide +kernel
theorem dJ7_fill_53178_10 : decode cJ7_fill_53178 10 = .ok (.aload_n 0, 1) := by decide +kernel
theorem dJ7_fill_53178_11 : decode cJ7_fill_53178 11 = .ok (.iload_n 2, 1) := by decide +kernel
theorem dJ7_fill_53178_12 : decode cJ7_fill_53178 12 = .ok (.iload_n 1, 1) := by decide +kernel
theorem dJ7_fill_53178_13 : decode cJ7_fill_53178 13 = .ok (.iastore, 1) := by decide +kernel
theorem dJ7_fill_53178_14 : decode cJ7_fill_53178 14 = .ok (.iinc 2 1, 3) := by decide +kernel
theorem dJ7_fill_53178_17 : decode cJ7_fill_53178 17 = .ok (.goto (-12), 3) := by decide +kernel
theorem dJ7_fill_53178_20 : decode cJ7_fill_53178 20 = .ok (.return_, 1) := by decide +kernel
theorem dJ3_checkIndex_8e157_0 : decode cJ3_checkIndex_8e157 0 = .ok (.iload_n 0, 1) := by decide +kernel
theorem dJ3_checkIndex_8e157_1 : decode cJ3_checkIndex_8e157 1 = .ok (.ifCond .lt 8, 3) := by decide +kernel
theorem dJ3_checkIndex_8e157_4 : decode cJ3_checkIndex_8e157 4 = .ok (.iload_n 0, 1) := by decide +kernel
theorem dJ3_checkIndex_8e157_5 : decode cJ3_checkIndex_8e157 5 = .ok (.iload_n 1, 1) := by decide +kernel
theorem dJ3_checkIndex_8e157_6 : decode cJ3_checkIndex_8e157 6 = .ok (.if_icmp .lt 10, 3) := by decide +kernel
theorem dJ3_checkIndex_8e157_9 : decode cJ3_checkIndex_8e157 9 = .ok (.aload_n 2, 1) := by decide +kernel
theorem dJ3_checkIndex_8e157_10 : decode cJ3_checkIndex_8e157 10 = .ok (.iload_n 0, 1) := by decide +kernel
theorem dJ3_checkIndex_8e157_11 : decode cJ3_checkIndex_8e157 11 = .ok (.iload_n 1, 1) := by decide +kernel
theorem dJ3_checkIndex_8e157_12 : decode cJ3_checkIndex_8e157 12 = .ok (.invokestatic 95, 3) := by decide +kernel
theorem dJ3_checkIndex_8e157_15 : decode cJ3_checkIndex_8e157 15 = .ok (.athrow, 1) := by decide +kernel
theorem dJ3_checkIndex_8e157_16 : decode cJ3_checkIndex_8e157 16 = .ok (.iload_n 0, 1) := by decide +kernel
theorem dJ3_checkIndex_8e157_17 : decode cJ3_checkIndex_8e157 17 = .ok (.ireturn, 1) := by decide +kernel
theorem dJ3_checkFromToIndex_8c36e_0 : decode cJ3_checkFromToIndex_8c36e 0 = .ok (.iload_n 0, 1) := by decide +kernel
theorem dJ3_checkFromToIndex_8c36e_1 : decode cJ3_checkFromToIndex_8c36e 1 = .ok (.ifCond .lt 13, 3) := by decide +kernel
theorem dJ3_checkFromToIndex_8c36e_4 : decode cJ3_checkFromToIndex_8c36e 4 = .ok (.iload_n 0, 1) := by decide +kernel
theorem dJ3_checkFromToIndex_8c36e_5 : decode cJ3_checkFromToIndex_8c36e 5 = .ok (.iload_n 1, 1) := by decide +kernel
theorem dJ3_checkFromToIndex_8c36e_6 : decode cJ3_checkFromToIndex_8c36e 6 = .ok (.if_icmp .gt 8, 3) := by decide +kernel
theorem dJ3_checkFromToIndex_8c36e_9 : decode cJ3_checkFromToIndex_8c36e 9 = .ok (.iload_n 1, 1) := by decide +kernel
theorem dJ3_checkFromToIndex_8c36e_10 : decode cJ3_checkFromToIndex_8c36e 10 = .ok (.iload_n 2, 1) := by decide +kernel
theorem dJ3_checkFromToIndex_8c36e_11 : decode cJ3_checkFromToIndex_8c36e 11 = .ok (.if_icmp .le 11, 3) := by decide +kernel
theorem dJ3_checkFromToIndex_8c36e_14 : decode cJ3_checkFromToIndex_8c36e 14 = .ok (.aload_n 3, 1) := by decide +kernel
theorem dJ3_checkFromToIndex_8c36e_15 : decode cJ3_checkFromToIndex_8c36e 15 = .ok (.iload_n 0, 1) := by decide +kernel
theorem dJ3_checkFromToIndex_8c36e_16 : decode cJ3_checkFromToIndex_8c36e 16 = .ok (.iload_n 1, 1) := by decide +kernel
theorem dJ3_checkFromToIndex_8c36e_17 : decode cJ3_checkFromToIndex_8c36e 17 = .ok (.iload_n 2, 1) := by decide +kernel
theorem dJ3_checkFromToIndex_8c36e_18 : decode cJ3_checkFromToIndex_8c36e 18 = .ok (.invokestatic 99, 3) := by decide +kernel
theorem dJ3_checkFromToIndex_8c36e_21 : decode cJ3_checkFromToIndex_8c36e 21 = .ok (.athrow, 1) := by decide +kernel
theorem dJ3_checkFromToIndex_8c36e_22 : decode cJ3_checkFromToIndex_8c36e 22 = .ok (.iload_n 0, 1) := by decide +kernel
theorem dJ3_checkFromToIndex_8c36e_23 : decode cJ3_checkFromToIndex_8c36e 23 = .ok (.ireturn, 1) := by decide +kernel
theorem dL_law_0 : decode cL_law 0 = .ok (.new 7, 3) := by decide +kernel
theorem dL_law_3 : decode cL_law 3 = .ok (.dup, 1) := by decide +kernel
theorem dL_law_4 : decode cL_law 4 = .ok (.invokespecial 9, 3) := by decide +kernel
theorem dL_law_7 : decode cL_law 7 = .ok (.astore_n 1, 1) := by decide +kernel
theorem dL_law_8 : decode cL_law 8 = .ok (.new 10, 3) := by decide +kernel
theorem dL_law_11 : decode cL_law 11 = .ok (.dup, 1) := by decide +kernel
theorem dL_law_12 : decode cL_law 12 = .ok (.invokespecial 12, 3) := by decide +kernel
theorem dL_law_15 : decode cL_law 15 = .ok (.astore_n 2, 1) := by decide +kernel
theorem dL_law_16 : decode cL_law 16 = .ok (.iconst 0, 1) := by decide +kernel
theorem dL_law_17 : decode cL_law 17 = .ok (.istore_n 3, 1) := by decide +kernel
theorem dL_law_18 : decode cL_law 18 = .ok (.iload_n 3, 1) := by decide +kernel
theorem dL_law_19 : decode cL_law 19 = .ok (.aload_n 0, 1) := by decide +kernel
theorem dL_law_20 : decode cL_law 20 = .ok (.arraylength, 1) := by decide +kernel
theorem dL_law_21 : decode cL_law 21 = .ok (.bipush 6, 2) := by decide +kernel
theorem dL_law_23 : decode cL_law 23 = .ok (.isub, 1) := by decide +kernel
theorem dL_law_24 : decode cL_law 24 = .ok (.if_icmp .gt 1524, 3) := by decide +kernel
theorem dL_law_27 : decode cL_law 27 = .ok (.aload_n 0, 1) := by decide +kernel
theorem dL_law_28 : decode cL_law 28 = .ok (.iload_n 3, 1) := by decide +kernel
theorem dL_law_29 : decode cL_law 29 = .ok (.iaload, 1) := by decide +kernel
theorem dL_law_30 : decode cL_law 30 = .ok (.bipush 63, 2) := by decide +kernel
theorem dL_law_32 : decode cL_law 32 = .ok (.iand, 1) := by decide +kernel
theorem dL_law_33 : decode cL_law 33 = .ok (.tableswitch 1509 0 42 #[187, 240, 273, 306, 349, 372, 385, 408, 431, 454, 477, 500, 533, 566, 599, 632, 665, 688, 711, 744, 787, 810, 833, 866, 889, 922, 955, 978, 991, 1035, 1069, 1102, 1115, 1148, 1161, 1174, 1217, 1240, 1273, 1296, 1339, 1412, 1446], 187) := by decide +kernel
theorem dL_law_220 : decode cL_law 220 = .ok (.aload_n 1, 1) := by decide +kernel
theorem dL_law_221 : decode cL_law 221 = .ok (.aload_n 0, 1) := by decide +kernel
theorem dL_law_222 : decode cL_law 222 = .ok (.iload_n 3, 1) := by decide +kernel
theorem dL_law_223 : decode cL_law 223 = .ok (.iconst 1, 1) := by decide +kernel
theorem dL_law_224 : decode cL_law 224 = .ok (.iadd, 1) := by decide +kernel
theorem dL_law_225 : decode cL_law 225 = .ok (.iaload, 1) := by decide +kernel
theorem dL_law_226 : decode cL_law 226 = .ok (.aload_n 0, 1) := by decide +kernel
theorem dL_law_227 : decode cL_law 227 = .ok (.iload_n 3, 1) := by decide +kernel
theorem dL_law_228 : decode cL_law 228 = .ok (.iconst 2, 1) := by decide +kernel
theorem dL_law_229 : decode cL_law 229 = .ok (.iadd, 1) := by decide +kernel
theorem dL_law_230 : decode cL_law 230 = .ok (.iaload, 1) := by decide +kernel
theorem dL_law_231 : decode cL_law 231 = .ok (.aload_n 0, 1) := by decide +kernel
theorem dL_law_232 : decode cL_law 232 = .ok (.iload_n 3, 1) := by decide +kernel
theorem dL_law_233 : decode cL_law 233 = .ok (.iconst 3, 1) := by decide +kernel
theorem dL_law_234 : decode cL_law 234 = .ok (.iadd, 1) := by decide +kernel
theorem dL_law_235 : decode cL_law 235 = .ok (.iaload, 1) := by decide +kernel
theorem dL_law_236 : decode cL_law 236 = .ok (.aload_n 0, 1) := by decide +kernel
theorem dL_law_237 : decode cL_law 237 = .ok (.iload_n 3, 1) := by decide +kernel
theorem dL_law_238 : decode cL_law 238 = .ok (.iconst 4, 1) := by decide +kernel
theorem dL_law_239 : decode cL_law 239 = .ok (.iadd, 1) := by decide +kernel
theorem dL_law_240 : decode cL_law 240 = .ok (.iaload, 1) := by decide +kernel
theorem dL_law_241 : decode cL_law 241 = .ok (.invokevirtual 13, 3) := by decide +kernel
theorem dL_law_244 : decode cL_law 244 = .ok (.aload_n 2, 1) := by decide +kernel
theorem dL_law_245 : decode cL_law 245 = .ok (.aload_n 0, 1) := by decide +kernel
theorem dL_law_246 : decode cL_law 246 = .ok (.iload_n 3, 1) := by decide +kernel
theorem dL_law_247 : decode cL_law 247 = .ok (.iconst 1, 1) := by decide +kernel
theorem dL_law_248 : decode cL_law 248 = .ok (.iadd, 1) := by decide +kernel
theorem dL_law_249 : decode cL_law 249 = .ok (.iaload, 1) := by decide +kernel
theorem dL_law_250 : decode cL_law 250 = .ok (.aload_n 0, 1) := by decide +kernel
theorem dL_law_251 : decode cL_law 251 = .ok (.iload_n 3, 1) := by decide +kernel
theorem dL_law_252 : decode cL_law 252 = .ok (.iconst 2, 1) := by decide +kernel
theorem dL_law_253 : decode cL_law 253 = .ok (.iadd, 1) := by decide +kernel
theorem dL_law_254 : decode cL_law 254 = .ok (.iaload, 1) := by decide +kernel
theorem dL_law_255 : decode cL_law 255 = .ok (.aload_n 0, 1) := by decide +kernel
theorem dL_law_256 : decode cL_law 256 = .ok (.iload_n 3, 1) := by decide +kernel
theorem dL_law_257 : decode cL_law 257 = .ok (.iconst 3, 1) := by decide +kernel
theorem dL_law_258 : decode cL_law 258 = .ok (.iadd, 1) := by decide +kernel
theorem dL_law_259 : decode cL_law 259 = .ok (.iaload, 1) := by decide +kernel
theorem dL_law_260 : decode cL_law 260 = .ok (.aload_n 0, 1) := by decide +kernel
theorem dL_law_261 : decode cL_law 261 = .ok (.iload_n 3, 1) := by decide +kernel
theorem dL_law_262 : decode cL_law 262 = .ok (.iconst 4, 1) := by decide +kernel
theorem dL_law_263 : decode cL_law 263 = .ok (.iadd, 1) := by decide +kernel
theorem dL_law_264 : decode cL_law 264 = .ok (.iaload, 1) := by decide +kernel
theorem dL_law_265 : decode cL_law 265 = .ok (.invokevirtual 17, 3) := by decide +kernel
theorem dL_law_268 : decode cL_law 268 = .ok (.if_icmp .eq 1274, 3) := by decide +kernel
theorem dL_law_271 : decode cL_law 271 = .ok (.iconst 0, 1) := by decide +kernel
theorem dL_law_272 : decode cL_law 272 = .ok (.ireturn, 1) := by decide +kernel
theorem dL_law_273 : decode cL_law 273 = .ok (.aload_n 1, 1) := by decide +kernel
theorem dL_law_274 : decode cL_law 274 = .ok (.aload_n 0, 1) := by decide +kernel
theorem dL_law_275 : decode cL_law 275 = .ok (.iload_n 3, 1) := by decide +kernel
theorem dL_law_276 : decode cL_law 276 = .ok (.iconst 1, 1) := by decide +kernel
theorem dL_law_277 : decode cL_law 277 = .ok (.iadd, 1) := by decide +kernel
theorem dL_law_278 : decode cL_law 278 = .ok (.iaload, 1) := by decide +kernel
theorem dL_law_279 : decode cL_law 279 = .ok (.aload_n 0, 1) := by decide +kernel
theorem dL_law_280 : decode cL_law 280 = .ok (.iload_n 3, 1) := by decide +kernel
theorem dL_law_281 : decode cL_law 281 = .ok (.iconst 2, 1) := by decide +kernel
theorem dL_law_282 : decode cL_law 282 = .ok (.iadd, 1) := by decide +kernel
theorem dL_law_283 : decode cL_law 283 = .ok (.iaload, 1) := by decide +kernel
theorem dL_law_284 : decode cL_law 284 = .ok (.invokevirtual 18, 3) := by decide +kernel
theorem dL_law_287 : decode cL_law 287 = .ok (.aload_n 2, 1) := by decide +kernel
theorem dL_law_288 : decode cL_law 288 = .ok (.aload_n 0, 1) := by decide +kernel
theorem dL_law_289 : decode cL_law 289 = .ok (.iload_n 3, 1) := by decide +kernel
theorem dL_law_290 : decode cL_law 290 = .ok (.iconst 1, 1) := by decide +kernel
theorem dL_law_291 : decode cL_law 291 = .ok (.iadd, 1) := by decide +kernel
theorem dL_law_292 : decode cL_law 292 = .ok (.iaload, 1) := by decide +kernel
theorem dL_law_293 : decode cL_law 293 = .ok (.aload_n 0, 1) := by decide +kernel
theorem dL_law_294 : decode cL_law 294 = .ok (.iload_n 3, 1) := by decide +kernel
theorem dL_law_295 : decode cL_law 295 = .ok (.iconst 2, 1) := by decide +kernel
theorem dL_law_296 : decode cL_law 296 = .ok (.iadd, 1) := by decide +kernel
theorem dL_law_297 : decode cL_law 297 = .ok (.iaload, 1) := by decide +kernel
theorem dL_law_298 : decode cL_law 298 = .ok (.invokevirtual 22, 3) := by decide +kernel
theorem dL_law_301 : decode cL_law 301 = .ok (.if_icmp .eq 1241, 3) := by decide +kernel
theorem dL_law_304 : decode cL_law 304 = .ok (.iconst 0, 1) := by decide +kernel
theorem dL_law_305 : decode cL_law 305 = .ok (.ireturn, 1) := by decide +kernel
theorem dL_law_306 : decode cL_law 306 = .ok (.aload_n 1, 1) := by decide +kernel
theorem dL_law_307 : decode cL_law 307 = .ok (.aload_n 0, 1) := by decide +kernel
theorem dL_law_308 : decode cL_law 308 = .ok (.iload_n 3, 1) := by decide +kernel
theorem dL_law_309 : decode cL_law 309 = .ok (.iconst 1, 1) := by decide +kernel
theorem dL_law_310 : decode cL_law 310 = .ok (.iadd, 1) := by decide +kernel
theorem dL_law_311 : decode cL_law 311 = .ok (.iaload, 1) := by decide +kernel
theorem dL_law_312 : decode cL_law 312 = .ok (.aload_n 0, 1) := by decide +kernel
theorem dL_law_313 : decode cL_law 313 = .ok (.iload_n 3, 1) := by decide +kernel
theorem dL_law_314 : decode cL_law 314 = .ok (.iconst 2, 1) := by decide +kernel
theorem dL_law_315 : decode cL_law 315 = .ok (.iadd, 1) := by decide +kernel
theorem dL_law_316 : decode cL_law 316 = .ok (.iaload, 1) := by decide +kernel
theorem dL_law_317 : decode cL_law 317 = .ok (.invokevirtual 23, 3) := by decide +kernel
theorem dL_law_320 : decode cL_law 320 = .ok (.aload_n 2, 1) := by decide +kernel
theorem dL_law_321 : decode cL_law 321 = .ok (.aload_n 0, 1) := by decide +kernel
theorem dL_law_322 : decode cL_law 322 = .ok (.iload_n 3, 1) := by decide +kernel
theorem dL_law_323 : decode cL_law 323 = .ok (.iconst 1, 1) := by decide +kernel
theorem dL_law_324 : decode cL_law 324 = .ok (.iadd, 1) := by decide +kernel
theorem dL_law_325 : decode cL_law 325 = .ok (.iaload, 1) := by decide +kernel
theorem dL_law_326 : decode cL_law 326 = .ok (.aload_n 0, 1) := by decide +kernel
theorem dL_law_327 : decode cL_law 327 = .ok (.iload_n 3, 1) := by decide +kernel
theorem dL_law_328 : decode cL_law 328 = .ok (.iconst 2, 1) := by decide +kernel
theorem dL_law_329 : decode cL_law 329 = .ok (.iadd, 1) := by decide +kernel
theorem dL_law_330 : decode cL_law 330 = .ok (.iaload, 1) := by decide +kernel
theorem dL_law_331 : decode cL_law 331 = .ok (.invokevirtual 26, 3) := by decide +kernel
theorem dL_law_334 : decode cL_law 334 = .ok (.if_icmp .eq 1208, 3) := by decide +kernel
theorem dL_law_337 : decode cL_law 337 = .ok (.iconst 0, 1) := by decide +kernel
theorem dL_law_338 : decode cL_law 338 = .ok (.ireturn, 1) := by decide +kernel
theorem dL_law_339 : decode cL_law 339 = .ok (.aload_n 1, 1) := by decide +kernel
theorem dL_law_340 : decode cL_law 340 = .ok (.aload_n 0, 1) := by decide +kernel
theorem dL_law_341 : decode cL_law 341 = .ok (.iload_n 3, 1) := by decide +kernel
theorem dL_law_342 : decode cL_law 342 = .ok (.iconst 1, 1) := by decide +kernel
theorem dL_law_343 : decode cL_law 343 = .ok (.iadd, 1) := by decide +kernel
theorem dL_law_344 : decode cL_law 344 = .ok (.iaload, 1) := by decide +kernel
theorem dL_law_345 : decode cL_law 345 = .ok (.aload_n 0, 1) := by decide +kernel
theorem dL_law_346 : decode cL_law 346 = .ok (.iload_n 3, 1) := by decide +kernel
theorem dL_law_347 : decode cL_law 347 = .ok (.iconst 2, 1) := by decide +kernel
theorem dL_law_348 : decode cL_law 348 = .ok (.iadd, 1) := by decide +kernel
theorem dL_law_349 : decode cL_law 349 = .ok (.iaload, 1) := by decide +kernel
theorem dL_law_350 : decode cL_law 350 = .ok (.aload_n 0, 1) := by decide +kernel
theorem dL_law_351 : decode cL_law 351 = .ok (.iload_n 3, 1) := by decide +kernel
theorem dL_law_352 : decode cL_law 352 = .ok (.iconst 3, 1) := by decide +kernel
theorem dL_law_353 : decode cL_law 353 = .ok (.iadd, 1) := by decide +kernel
theorem dL_law_354 : decode cL_law 354 = .ok (.iaload, 1) := by decide +kernel
theorem dL_law_355 : decode cL_law 355 = .ok (.invokevirtual 27, 3) := by decide +kernel
theorem dL_law_358 : decode cL_law 358 = .ok (.aload_n 2, 1) := by decide +kernel
theorem dL_law_359 : decode cL_law 359 = .ok (.aload_n 0, 1) := by decide +kernel
theorem dL_law_360 : decode cL_law 360 = .ok (.iload_n 3, 1) := by decide +kernel
theorem dL_law_361 : decode cL_law 361 = .ok (.iconst 1, 1) := by decide +kernel
theorem dL_law_362 : decode cL_law 362 = .ok (.iadd, 1) := by decide +kernel
theorem dL_law_363 : decode cL_law 363 = .ok (.iaload, 1) := by decide +kernel
theorem dL_law_364 : decode cL_law 364 = .ok (.aload_n 0, 1) := by decide +kernel
theorem dL_law_365 : decode cL_law 365 = .ok (.iload_n 3, 1) := by decide +kernel
theorem dL_law_366 : decode cL_law 366 = .ok (.iconst 2, 1) := by decide +kernel
theorem dL_law_367 : decode cL_law 367 = .ok (.iadd, 1) := by decide +kernel
theorem dL_law_368 : decode cL_law 368 = .ok (.iaload, 1) := by decide +kernel
theorem dL_law_369 : decode cL_law 369 = .ok (.aload_n 0, 1) := by decide +kernel
theorem dL_law_370 : decode cL_law 370 = .ok (.iload_n 3, 1) := by decide +kernel
theorem dL_law_371 : decode cL_law 371 = .ok (.iconst 3, 1) := by decide +kernel
theorem dL_law_372 : decode cL_law 372 = .ok (.iadd, 1) := by decide +kernel
theorem dL_law_373 : decode cL_law 373 = .ok (.iaload, 1) := by decide +kernel
theorem dL_law_374 : decode cL_law 374 = .ok (.invokevirtual 31, 3) := by decide +kernel
theorem dL_law_377 : decode cL_law 377 = .ok (.if_icmp .eq 1165, 3) := by decide +kernel
theorem dL_law_380 : decode cL_law 380 = .ok (.iconst 0, 1) := by decide +kernel
theorem dL_law_381 : decode cL_law 381 = .ok (.ireturn, 1) := by decide +kernel
theorem dL_law_382 : decode cL_law 382 = .ok (.aload_n 1, 1) := by decide +kernel
theorem dL_law_383 : decode cL_law 383 = .ok (.aload_n 0, 1) := by decide +kernel
theorem dL_law_384 : decode cL_law 384 = .ok (.iload_n 3, 1) := by decide +kernel
theorem dL_law_385 : decode cL_law 385 = .ok (.iconst 1, 1) := by decide +kernel
theorem dL_law_386 : decode cL_law 386 = .ok (.iadd, 1) := by decide +kernel
theorem dL_law_387 : decode cL_law 387 = .ok (.iaload, 1) := by decide +kernel
theorem dL_law_388 : decode cL_law 388 = .ok (.invokevirtual 32, 3) := by decide +kernel
theorem dL_law_391 : decode cL_law 391 = .ok (.aload_n 2, 1) := by decide +kernel
theorem dL_law_392 : decode cL_law 392 = .ok (.aload_n 0, 1) := by decide +kernel
theorem dL_law_393 : decode cL_law 393 = .ok (.iload_n 3, 1) := by decide +kernel
theorem dL_law_394 : decode cL_law 394 = .ok (.iconst 1, 1) := by decide +kernel
theorem dL_law_395 : decode cL_law 395 = .ok (.iadd, 1) := by decide +kernel
theorem dL_law_396 : decode cL_law 396 = .ok (.iaload, 1) := by decide +kernel
theorem dL_law_397 : decode cL_law 397 = .ok (.invokevirtual 36, 3) := by decide +kernel
theorem dL_law_400 : decode cL_law 400 = .ok (.if_icmp .eq 1142, 3) := by decide +kernel
theorem dL_law_403 : decode cL_law 403 = .ok (.iconst 0, 1) := by decide +kernel
theorem dL_law_404 : decode cL_law 404 = .ok (.ireturn, 1) := by decide +kernel
theorem dL_law_405 : decode cL_law 405 = .ok (.aload_n 1, 1) := by decide +kernel
theorem dL_law_406 : decode cL_law 406 = .ok (.invokevirtual 37, 3) := by decide +kernel
theorem dL_law_409 : decode cL_law 409 = .ok (.aload_n 2, 1) := by decide +kernel
theorem dL_law_410 : decode cL_law 410 = .ok (.invokevirtual 41, 3) := by decide +kernel
theorem dL_law_413 : decode cL_law 413 = .ok (.if_icmp .eq 1129, 3) := by decide +kernel
theorem dL_law_416 : decode cL_law 416 = .ok (.iconst 0, 1) := by decide +kernel
theorem dL_law_417 : decode cL_law 417 = .ok (.ireturn, 1) := by decide +kernel
theorem dL_law_418 : decode cL_law 418 = .ok (.aload_n 1, 1) := by decide +kernel
theorem dL_law_419 : decode cL_law 419 = .ok (.aload_n 0, 1) := by decide +kernel
theorem dL_law_420 : decode cL_law 420 = .ok (.iload_n 3, 1) := by decide +kernel
theorem dL_law_421 : decode cL_law 421 = .ok (.iconst 1, 1) := by decide +kernel
theorem dL_law_422 : decode cL_law 422 = .ok (.iadd, 1) := by decide +kernel
theorem dL_law_423 : decode cL_law 423 = .ok (.iaload, 1) := by decide +kernel
theorem dL_law_424 : decode cL_law 424 = .ok (.invokevirtual 42, 3) := by decide +kernel
theorem dL_law_427 : decode cL_law 427 = .ok (.aload_n 2, 1) := by decide +kernel
theorem dL_law_428 : decode cL_law 428 = .ok (.aload_n 0, 1) := by decide +kernel
theorem dL_law_429 : decode cL_law 429 = .ok (.iload_n 3, 1) := by decide +kernel
theorem dL_law_430 : decode cL_law 430 = .ok (.iconst 1, 1) := by decide +kernel
theorem dL_law_431 : decode cL_law 431 = .ok (.iadd, 1) := by decide +kernel
theorem dL_law_432 : decode cL_law 432 = .ok (.iaload, 1) := by decide +kernel
theorem dL_law_433 : decode cL_law 433 = .ok (.invokevirtual 45, 3) := by decide +kernel
theorem dL_law_436 : decode cL_law 436 = .ok (.if_icmp .eq 1106, 3) := by decide +kernel
theorem dL_law_439 : decode cL_law 439 = .ok (.iconst 0, 1) := by decide +kernel
theorem dL_law_440 : decode cL_law 440 = .ok (.ireturn, 1) := by decide +kernel
theorem dL_law_441 : decode cL_law 441 = .ok (.aload_n 1, 1) := by decide +kernel
theorem dL_law_442 : decode cL_law 442 = .ok (.aload_n 0, 1) := by decide +kernel
theorem dL_law_443 : decode cL_law 443 = .ok (.iload_n 3, 1) := by decide +kernel
theorem dL_law_444 : decode cL_law 444 = .ok (.iconst 1, 1) := by decide +kernel
theorem dL_law_445 : decode cL_law 445 = .ok (.iadd, 1) := by decide +kernel
theorem dL_law_446 : decode cL_law 446 = .ok (.iaload, 1) := by decide +kernel
theorem dL_law_447 : decode cL_law 447 = .ok (.invokevirtual 46, 3) := by decide +kernel
theorem dL_law_450 : decode cL_law 450 = .ok (.aload_n 2, 1) := by decide +kernel
theorem dL_law_451 : decode cL_law 451 = .ok (.aload_n 0, 1) := by decide +kernel
theorem dL_law_452 : decode cL_law 452 = .ok (.iload_n 3, 1) := by decide +kernel
theorem dL_law_453 : decode cL_law 453 = .ok (.iconst 1, 1) := by decide +kernel
theorem dL_law_454 : decode cL_law 454 = .ok (.iadd, 1) := by decide +kernel
theorem dL_law_455 : decode cL_law 455 = .ok (.iaload, 1) := by decide +kernel
theorem dL_law_456 : decode cL_law 456 = .ok (.invokevirtual 49, 3) := by decide +kernel
theorem dL_law_459 : decode cL_law 459 = .ok (.if_icmp .eq 1083, 3) := by decide +kernel
theorem dL_law_462 : decode cL_law 462 = .ok (.iconst 0, 1) := by decide +kernel
theorem dL_law_463 : decode cL_law 463 = .ok (.ireturn, 1) := by decide +kernel
theorem dL_law_464 : decode cL_law 464 = .ok (.aload_n 1, 1) := by decide +kernel
theorem dL_law_465 : decode cL_law 465 = .ok (.aload_n 0, 1) := by decide +kernel
theorem dL_law_466 : decode cL_law 466 = .ok (.iload_n 3, 1) := by decide +kernel
theorem dL_law_467 : decode cL_law 467 = .ok (.iconst 1, 1) := by decide +kernel
theorem dL_law_468 : decode cL_law 468 = .ok (.iadd, 1) := by decide +kernel
theorem dL_law_469 : decode cL_law 469 = .ok (.iaload, 1) := by decide +kernel
theorem dL_law_470 : decode cL_law 470 = .ok (.invokevirtual 50, 3) := by decide +kernel
theorem dL_law_473 : decode cL_law 473 = .ok (.aload_n 2, 1) := by decide +kernel
theorem dL_law_474 : decode cL_law 474 = .ok (.aload_n 0, 1) := by decide +kernel
theorem dL_law_475 : decode cL_law 475 = .ok (.iload_n 3, 1) := by decide +kernel
theorem dL_law_476 : decode cL_law 476 = .ok (.iconst 1, 1) := by decide +kernel
theorem dL_law_477 : decode cL_law 477 = .ok (.iadd, 1) := by decide +kernel
theorem dL_law_478 : decode cL_law 478 = .ok (.iaload, 1) := by decide +kernel
theorem dL_law_479 : decode cL_law 479 = .ok (.invokevirtual 53, 3) := by decide +kernel
theorem dL_law_482 : decode cL_law 482 = .ok (.if_icmp .eq 1060, 3) := by decide +kernel
theorem dL_law_485 : decode cL_law 485 = .ok (.iconst 0, 1) := by decide +kernel
theorem dL_law_486 : decode cL_law 486 = .ok (.ireturn, 1) := by decide +kernel
theorem dL_law_487 : decode cL_law 487 = .ok (.aload_n 1, 1) := by decide +kernel
theorem dL_law_488 : decode cL_law 488 = .ok (.aload_n 0, 1) := by decide +kernel
theorem dL_law_489 : decode cL_law 489 = .ok (.iload_n 3, 1) := by decide +kernel
theorem dL_law_490 : decode cL_law 490 = .ok (.iconst 1, 1) := by decide +kernel
theorem dL_law_491 : decode cL_law 491 = .ok (.iadd, 1) := by decide +kernel
theorem dL_law_492 : decode cL_law 492 = .ok (.iaload, 1) := by decide +kernel
theorem dL_law_493 : decode cL_law 493 = .ok (.invokevirtual 54, 3) := by decide +kernel
theorem dL_law_496 : decode cL_law 496 = .ok (.aload_n 2, 1) := by decide +kernel
theorem dL_law_497 : decode cL_law 497 = .ok (.aload_n 0, 1) := by decide +kernel
theorem dL_law_498 : decode cL_law 498 = .ok (.iload_n 3, 1) := by decide +kernel
theorem dL_law_499 : decode cL_law 499 = .ok (.iconst 1, 1) := by decide +kernel
theorem dL_law_500 : decode cL_law 500 = .ok (.iadd, 1) := by decide +kernel
theorem dL_law_501 : decode cL_law 501 = .ok (.iaload, 1) := by decide +kernel
theorem dL_law_502 : decode cL_law 502 = .ok (.invokevirtual 57, 3) := by decide +kernel
theorem dL_law_505 : decode cL_law 505 = .ok (.if_icmp .eq 1037, 3) := by decide +kernel
theorem dL_law_508 : decode cL_law 508 = .ok (.iconst 0, 1) := by decide +kernel
theorem dL_law_509 : decode cL_law 509 = .ok (.ireturn, 1) := by decide +kernel
theorem dL_law_510 : decode cL_law 510 = .ok (.aload_n 1, 1) := by decide +kernel
theorem dL_law_511 : decode cL_law 511 = .ok (.aload_n 0, 1) := by decide +kernel
theorem dL_law_512 : decode cL_law 512 = .ok (.iload_n 3, 1) := by decide +kernel
theorem dL_law_513 : decode cL_law 513 = .ok (.iconst 1, 1) := by decide +kernel
theorem dL_law_514 : decode cL_law 514 = .ok (.iadd, 1) := by decide +kernel
theorem dL_law_515 : decode cL_law 515 = .ok (.iaload, 1) := by decide +kernel
theorem dL_law_516 : decode cL_law 516 = .ok (.invokevirtual 58, 3) := by decide +kernel
theorem dL_law_519 : decode cL_law 519 = .ok (.aload_n 2, 1) := by decide +kernel
theorem dL_law_520 : decode cL_law 520 = .ok (.aload_n 0, 1) := by decide +kernel
theorem dL_law_521 : decode cL_law 521 = .ok (.iload_n 3, 1) := by decide +kernel
theorem dL_law_522 : decode cL_law 522 = .ok (.iconst 1, 1) := by decide +kernel
theorem dL_law_523 : decode cL_law 523 = .ok (.iadd, 1) := by decide +kernel
theorem dL_law_524 : decode cL_law 524 = .ok (.iaload, 1) := by decide +kernel
theorem dL_law_525 : decode cL_law 525 = .ok (.invokevirtual 61, 3) := by decide +kernel
theorem dL_law_528 : decode cL_law 528 = .ok (.if_icmp .eq 1014, 3) := by decide +kernel
theorem dL_law_531 : decode cL_law 531 = .ok (.iconst 0, 1) := by decide +kernel
theorem dL_law_532 : decode cL_law 532 = .ok (.ireturn, 1) := by decide +kernel
theorem dL_law_533 : decode cL_law 533 = .ok (.aload_n 1, 1) := by decide +kernel
theorem dL_law_534 : decode cL_law 534 = .ok (.aload_n 0, 1) := by decide +kernel
theorem dL_law_535 : decode cL_law 535 = .ok (.iload_n 3, 1) := by decide +kernel
theorem dL_law_536 : decode cL_law 536 = .ok (.iconst 1, 1) := by decide +kernel
theorem dL_law_537 : decode cL_law 537 = .ok (.iadd, 1) := by decide +kernel
theorem dL_law_538 : decode cL_law 538 = .ok (.iaload, 1) := by decide +kernel
theorem dL_law_539 : decode cL_law 539 = .ok (.aload_n 0, 1) := by decide +kernel
theorem dL_law_540 : decode cL_law 540 = .ok (.iload_n 3, 1) := by decide +kernel
theorem dL_law_541 : decode cL_law 541 = .ok (.iconst 2, 1) := by decide +kernel
theorem dL_law_542 : decode cL_law 542 = .ok (.iadd, 1) := by decide +kernel
theorem dL_law_543 : decode cL_law 543 = .ok (.iaload, 1) := by decide +kernel
theorem dL_law_544 : decode cL_law 544 = .ok (.invokevirtual 62, 3) := by decide +kernel
theorem dL_law_547 : decode cL_law 547 = .ok (.aload_n 2, 1) := by decide +kernel
theorem dL_law_548 : decode cL_law 548 = .ok (.aload_n 0, 1) := by decide +kernel
theorem dL_law_549 : decode cL_law 549 = .ok (.iload_n 3, 1) := by decide +kernel
theorem dL_law_550 : decode cL_law 550 = .ok (.iconst 1, 1) := by decide +kernel
theorem dL_law_551 : decode cL_law 551 = .ok (.iadd, 1) := by decide +kernel
theorem dL_law_552 : decode cL_law 552 = .ok (.iaload, 1) := by decide +kernel
theorem dL_law_553 : decode cL_law 553 = .ok (.aload_n 0, 1) := by decide +kernel
theorem dL_law_554 : decode cL_law 554 = .ok (.iload_n 3, 1) := by decide +kernel
theorem dL_law_555 : decode cL_law 555 = .ok (.iconst 2, 1) := by decide +kernel
theorem dL_law_556 : decode cL_law 556 = .ok (.iadd, 1) := by decide +kernel
theorem dL_law_557 : decode cL_law 557 = .ok (.iaload, 1) := by decide +kernel
theorem dL_law_558 : decode cL_law 558 = .ok (.invokevirtual 65, 3) := by decide +kernel
theorem dL_law_561 : decode cL_law 561 = .ok (.if_icmp .eq 981, 3) := by decide +kernel
theorem dL_law_564 : decode cL_law 564 = .ok (.iconst 0, 1) := by decide +kernel
theorem dL_law_565 : decode cL_law 565 = .ok (.ireturn, 1) := by decide +kernel
theorem dL_law_566 : decode cL_law 566 = .ok (.aload_n 1, 1) := by decide +kernel
theorem dL_law_567 : decode cL_law 567 = .ok (.aload_n 0, 1) := by decide +kernel
theorem dL_law_568 : decode cL_law 568 = .ok (.iload_n 3, 1) := by decide +kernel
theorem dL_law_569 : decode cL_law 569 = .ok (.iconst 1, 1) := by decide +kernel
theorem dL_law_570 : decode cL_law 570 = .ok (.iadd, 1) := by decide +kernel
theorem dL_law_571 : decode cL_law 571 = .ok (.iaload, 1) := by decide +kernel
theorem dL_law_572 : decode cL_law 572 = .ok (.aload_n 0, 1) := by decide +kernel
theorem dL_law_573 : decode cL_law 573 = .ok (.iload_n 3, 1) := by decide +kernel
theorem dL_law_574 : decode cL_law 574 = .ok (.iconst 2, 1) := by decide +kernel
theorem dL_law_575 : decode cL_law 575 = .ok (.iadd, 1) := by decide +kernel
theorem dL_law_576 : decode cL_law 576 = .ok (.iaload, 1) := by decide +kernel
theorem dL_law_577 : decode cL_law 577 = .ok (.invokevirtual 66, 3) := by decide +kernel
theorem dL_law_580 : decode cL_law 580 = .ok (.aload_n 2, 1) := by decide +kernel
theorem dL_law_581 : decode cL_law 581 = .ok (.aload_n 0, 1) := by decide +kernel
theorem dL_law_582 : decode cL_law 582 = .ok (.iload_n 3, 1) := by decide +kernel
theorem dL_law_583 : decode cL_law 583 = .ok (.iconst 1, 1) := by decide +kernel
theorem dL_law_584 : decode cL_law 584 = .ok (.iadd, 1) := by decide +kernel
theorem dL_law_585 : decode cL_law 585 = .ok (.iaload, 1) := by decide +kernel
theorem dL_law_586 : decode cL_law 586 = .ok (.aload_n 0, 1) := by decide +kernel
theorem dL_law_587 : decode cL_law 587 = .ok (.iload_n 3, 1) := by decide +kernel
theorem dL_law_588 : decode cL_law 588 = .ok (.iconst 2, 1) := by decide +kernel
theorem dL_law_589 : decode cL_law 589 = .ok (.iadd, 1) := by decide +kernel
theorem dL_law_590 : decode cL_law 590 = .ok (.iaload, 1) := by decide +kernel
theorem dL_law_591 : decode cL_law 591 = .ok (.invokevirtual 69, 3) := by decide +kernel
theorem dL_law_594 : decode cL_law 594 = .ok (.if_icmp .eq 948, 3) := by decide +kernel
theorem dL_law_597 : decode cL_law 597 = .ok (.iconst 0, 1) := by decide +kernel
theorem dL_law_598 : decode cL_law 598 = .ok (.ireturn, 1) := by decide +kernel
theorem dL_law_599 : decode cL_law 599 = .ok (.aload_n 1, 1) := by decide +kernel
theorem dL_law_600 : decode cL_law 600 = .ok (.aload_n 0, 1) := by decide +kernel
theorem dL_law_601 : decode cL_law 601 = .ok (.iload_n 3, 1) := by decide +kernel
theorem dL_law_602 : decode cL_law 602 = .ok (.iconst 1, 1) := by decide +kernel
theorem dL_law_603 : decode cL_law 603 = .ok (.iadd, 1) := by decide +kernel
theorem dL_law_604 : decode cL_law 604 = .ok (.iaload, 1) := by decide +kernel
theorem dL_law_605 : decode cL_law 605 = .ok (.aload_n 0, 1) := by decide +kernel
theorem dL_law_606 : decode cL_law 606 = .ok (.iload_n 3, 1) := by decide +kernel
theorem dL_law_607 : decode cL_law 607 = .ok (.iconst 2, 1) := by decide +kernel
theorem dL_law_608 : decode cL_law 608 = .ok (.iadd, 1) := by decide +kernel
theorem dL_law_609 : decode cL_law 609 = .ok (.iaload, 1) := by decide +kernel
theorem dL_law_610 : decode cL_law 610 = .ok (.invokevirtual 70, 3) := by decide +kernel
theorem dL_law_613 : decode cL_law 613 = .ok (.aload_n 2, 1) := by decide +kernel
theorem dL_law_614 : decode cL_law 614 = .ok (.aload_n 0, 1) := by decide +kernel
theorem dL_law_615 : decode cL_law 615 = .ok (.iload_n 3, 1) := by decide +kernel
theorem dL_law_616 : decode cL_law 616 = .ok (.iconst 1, 1) := by decide +kernel
theorem dL_law_617 : decode cL_law 617 = .ok (.iadd, 1) := by decide +kernel
theorem dL_law_618 : decode cL_law 618 = .ok (.iaload, 1) := by decide +kernel
theorem dL_law_619 : decode cL_law 619 = .ok (.aload_n 0, 1) := by decide +kernel
theorem dL_law_620 : decode cL_law 620 = .ok (.iload_n 3, 1) := by decide +kernel
theorem dL_law_621 : decode cL_law 621 = .ok (.iconst 2, 1) := by decide +kernel
theorem dL_law_622 : decode cL_law 622 = .ok (.iadd, 1) := by decide +kernel
theorem dL_law_623 : decode cL_law 623 = .ok (.iaload, 1) := by decide +kernel
theorem dL_law_624 : decode cL_law 624 = .ok (.invokevirtual 73, 3) := by decide +kernel
theorem dL_law_627 : decode cL_law 627 = .ok (.if_icmp .eq 915, 3) := by decide +kernel
theorem dL_law_630 : decode cL_law 630 = .ok (.iconst 0, 1) := by decide +kernel
theorem dL_law_631 : decode cL_law 631 = .ok (.ireturn, 1) := by decide +kernel
theorem dL_law_632 : decode cL_law 632 = .ok (.aload_n 1, 1) := by decide +kernel
theorem dL_law_633 : decode cL_law 633 = .ok (.aload_n 0, 1) := by decide +kernel
theorem dL_law_634 : decode cL_law 634 = .ok (.iload_n 3, 1) := by decide +kernel
theorem dL_law_635 : decode cL_law 635 = .ok (.iconst 1, 1) := by decide +kernel
theorem dL_law_636 : decode cL_law 636 = .ok (.iadd, 1) := by decide +kernel
theorem dL_law_637 : decode cL_law 637 = .ok (.iaload, 1) := by decide +kernel
theorem dL_law_638 : decode cL_law 638 = .ok (.aload_n 0, 1) := by decide +kernel
theorem dL_law_639 : decode cL_law 639 = .ok (.iload_n 3, 1) := by decide +kernel
theorem dL_law_640 : decode cL_law 640 = .ok (.iconst 2, 1) := by decide +kernel
theorem dL_law_641 : decode cL_law 641 = .ok (.iadd, 1) := by decide +kernel
theorem dL_law_642 : decode cL_law 642 = .ok (.iaload, 1) := by decide +kernel
theorem dL_law_643 : decode cL_law 643 = .ok (.invokevirtual 74, 3) := by decide +kernel
theorem dL_law_646 : decode cL_law 646 = .ok (.aload_n 2, 1) := by decide +kernel
theorem dL_law_647 : decode cL_law 647 = .ok (.aload_n 0, 1) := by decide +kernel
theorem dL_law_648 : decode cL_law 648 = .ok (.iload_n 3, 1) := by decide +kernel
theorem dL_law_649 : decode cL_law 649 = .ok (.iconst 1, 1) := by decide +kernel
theorem dL_law_650 : decode cL_law 650 = .ok (.iadd, 1) := by decide +kernel
theorem dL_law_651 : decode cL_law 651 = .ok (.iaload, 1) := by decide +kernel
theorem dL_law_652 : decode cL_law 652 = .ok (.aload_n 0, 1) := by decide +kernel
theorem dL_law_653 : decode cL_law 653 = .ok (.iload_n 3, 1) := by decide +kernel
theorem dL_law_654 : decode cL_law 654 = .ok (.iconst 2, 1) := by decide +kernel
theorem dL_law_655 : decode cL_law 655 = .ok (.iadd, 1) := by decide +kernel
theorem dL_law_656 : decode cL_law 656 = .ok (.iaload, 1) := by decide +kernel
theorem dL_law_657 : decode cL_law 657 = .ok (.invokevirtual 77, 3) := by decide +kernel
theorem dL_law_660 : decode cL_law 660 = .ok (.if_icmp .eq 882, 3) := by decide +kernel
theorem dL_law_663 : decode cL_law 663 = .ok (.iconst 0, 1) := by decide +kernel
theorem dL_law_664 : decode cL_law 664 = .ok (.ireturn, 1) := by decide +kernel
theorem dL_law_665 : decode cL_law 665 = .ok (.aload_n 1, 1) := by decide +kernel
theorem dL_law_666 : decode cL_law 666 = .ok (.aload_n 0, 1) := by decide +kernel
theorem dL_law_667 : decode cL_law 667 = .ok (.iload_n 3, 1) := by decide +kernel
theorem dL_law_668 : decode cL_law 668 = .ok (.iconst 1, 1) := by decide +kernel
theorem dL_law_669 : decode cL_law 669 = .ok (.iadd, 1) := by decide +kernel
theorem dL_law_670 : decode cL_law 670 = .ok (.iaload, 1) := by decide +kernel
theorem dL_law_671 : decode cL_law 671 = .ok (.aload_n 0, 1) := by decide +kernel
theorem dL_law_672 : decode cL_law 672 = .ok (.iload_n 3, 1) := by decide +kernel
theorem dL_law_673 : decode cL_law 673 = .ok (.iconst 2, 1) := by decide +kernel
theorem dL_law_674 : decode cL_law 674 = .ok (.iadd, 1) := by decide +kernel
theorem dL_law_675 : decode cL_law 675 = .ok (.iaload, 1) := by decide +kernel
theorem dL_law_676 : decode cL_law 676 = .ok (.invokevirtual 78, 3) := by decide +kernel
theorem dL_law_679 : decode cL_law 679 = .ok (.aload_n 2, 1) := by decide +kernel
theorem dL_law_680 : decode cL_law 680 = .ok (.aload_n 0, 1) := by decide +kernel
theorem dL_law_681 : decode cL_law 681 = .ok (.iload_n 3, 1) := by decide +kernel
theorem dL_law_682 : decode cL_law 682 = .ok (.iconst 1, 1) := by decide +kernel
theorem dL_law_683 : decode cL_law 683 = .ok (.iadd, 1) := by decide +kernel
theorem dL_law_684 : decode cL_law 684 = .ok (.iaload, 1) := by decide +kernel
theorem dL_law_685 : decode cL_law 685 = .ok (.aload_n 0, 1) := by decide +kernel
theorem dL_law_686 : decode cL_law 686 = .ok (.iload_n 3, 1) := by decide +kernel
theorem dL_law_687 : decode cL_law 687 = .ok (.iconst 2, 1) := by decide +kernel
theorem dL_law_688 : decode cL_law 688 = .ok (.iadd, 1) := by decide +kernel
theorem dL_law_689 : decode cL_law 689 = .ok (.iaload, 1) := by decide +kernel
theorem dL_law_690 : decode cL_law 690 = .ok (.invokevirtual 81, 3) := by decide +kernel
theorem dL_law_693 : decode cL_law 693 = .ok (.if_icmp .eq 849, 3) := by decide +kernel
theorem dL_law_696 : decode cL_law 696 = .ok (.iconst 0, 1) := by decide +kernel
theorem dL_law_697 : decode cL_law 697 = .ok (.ireturn, 1) := by decide +kernel
theorem dL_law_698 : decode cL_law 698 = .ok (.aload_n 1, 1) := by decide +kernel
theorem dL_law_699 : decode cL_law 699 = .ok (.aload_n 0, 1) := by decide +kernel
theorem dL_law_700 : decode cL_law 700 = .ok (.iload_n 3, 1) := by decide +kernel
theorem dL_law_701 : decode cL_law 701 = .ok (.iconst 1, 1) := by decide +kernel
theorem dL_law_702 : decode cL_law 702 = .ok (.iadd, 1) := by decide +kernel
theorem dL_law_703 : decode cL_law 703 = .ok (.iaload, 1) := by decide +kernel
theorem dL_law_704 : decode cL_law 704 = .ok (.invokevirtual 82, 3) := by decide +kernel
theorem dL_law_707 : decode cL_law 707 = .ok (.aload_n 2, 1) := by decide +kernel
theorem dL_law_708 : decode cL_law 708 = .ok (.aload_n 0, 1) := by decide +kernel
theorem dL_law_709 : decode cL_law 709 = .ok (.iload_n 3, 1) := by decide +kernel
theorem dL_law_710 : decode cL_law 710 = .ok (.iconst 1, 1) := by decide +kernel
theorem dL_law_711 : decode cL_law 711 = .ok (.iadd, 1) := by decide +kernel
theorem dL_law_712 : decode cL_law 712 = .ok (.iaload, 1) := by decide +kernel
theorem dL_law_713 : decode cL_law 713 = .ok (.invokevirtual 85, 3) := by decide +kernel
theorem dL_law_716 : decode cL_law 716 = .ok (.if_icmp .eq 826, 3) := by decide +kernel
theorem dL_law_719 : decode cL_law 719 = .ok (.iconst 0, 1) := by decide +kernel
theorem dL_law_720 : decode cL_law 720 = .ok (.ireturn, 1) := by decide +kernel
theorem dL_law_721 : decode cL_law 721 = .ok (.aload_n 1, 1) := by decide +kernel
theorem dL_law_722 : decode cL_law 722 = .ok (.aload_n 0, 1) := by decide +kernel
theorem dL_law_723 : decode cL_law 723 = .ok (.iload_n 3, 1) := by decide +kernel
theorem dL_law_724 : decode cL_law 724 = .ok (.iconst 1, 1) := by decide +kernel
theorem dL_law_725 : decode cL_law 725 = .ok (.iadd, 1) := by decide +kernel
theorem dL_law_726 : decode cL_law 726 = .ok (.iaload, 1) := by decide +kernel
theorem dL_law_727 : decode cL_law 727 = .ok (.invokevirtual 86, 3) := by decide +kernel
theorem dL_law_730 : decode cL_law 730 = .ok (.aload_n 2, 1) := by decide +kernel
theorem dL_law_731 : decode cL_law 731 = .ok (.aload_n 0, 1) := by decide +kernel
theorem dL_law_732 : decode cL_law 732 = .ok (.iload_n 3, 1) := by decide +kernel
theorem dL_law_733 : decode cL_law 733 = .ok (.iconst 1, 1) := by decide +kernel
theorem dL_law_734 : decode cL_law 734 = .ok (.iadd, 1) := by decide +kernel
theorem dL_law_735 : decode cL_law 735 = .ok (.iaload, 1) := by decide +kernel
theorem dL_law_736 : decode cL_law 736 = .ok (.invokevirtual 89, 3) := by decide +kernel
theorem dL_law_739 : decode cL_law 739 = .ok (.if_icmp .eq 803, 3) := by decide +kernel
theorem dL_law_742 : decode cL_law 742 = .ok (.iconst 0, 1) := by decide +kernel
theorem dL_law_743 : decode cL_law 743 = .ok (.ireturn, 1) := by decide +kernel
theorem dL_law_744 : decode cL_law 744 = .ok (.aload_n 1, 1) := by decide +kernel
theorem dL_law_745 : decode cL_law 745 = .ok (.aload_n 0, 1) := by decide +kernel
theorem dL_law_746 : decode cL_law 746 = .ok (.iload_n 3, 1) := by decide +kernel
theorem dL_law_747 : decode cL_law 747 = .ok (.iconst 1, 1) := by decide +kernel
theorem dL_law_748 : decode cL_law 748 = .ok (.iadd, 1) := by decide +kernel
theorem dL_law_749 : decode cL_law 749 = .ok (.iaload, 1) := by decide +kernel
theorem dL_law_750 : decode cL_law 750 = .ok (.aload_n 0, 1) := by decide +kernel
theorem dL_law_751 : decode cL_law 751 = .ok (.iload_n 3, 1) := by decide +kernel
theorem dL_law_752 : decode cL_law 752 = .ok (.iconst 2, 1) := by decide +kernel
theorem dL_law_753 : decode cL_law 753 = .ok (.iadd, 1) := by decide +kernel
theorem dL_law_754 : decode cL_law 754 = .ok (.iaload, 1) := by decide +kernel
theorem dL_law_755 : decode cL_law 755 = .ok (.invokevirtual 90, 3) := by decide +kernel
theorem dL_law_758 : decode cL_law 758 = .ok (.aload_n 2, 1) := by decide +kernel
theorem dL_law_759 : decode cL_law 759 = .ok (.aload_n 0, 1) := by decide +kernel
theorem dL_law_760 : decode cL_law 760 = .ok (.iload_n 3, 1) := by decide +kernel
theorem dL_law_761 : decode cL_law 761 = .ok (.iconst 1, 1) := by decide +kernel
theorem dL_law_762 : decode cL_law 762 = .ok (.iadd, 1) := by decide +kernel
theorem dL_law_763 : decode cL_law 763 = .ok (.iaload, 1) := by decide +kernel
theorem dL_law_764 : decode cL_law 764 = .ok (.aload_n 0, 1) := by decide +kernel
theorem dL_law_765 : decode cL_law 765 = .ok (.iload_n 3, 1) := by decide +kernel
theorem dL_law_766 : decode cL_law 766 = .ok (.iconst 2, 1) := by decide +kernel
theorem dL_law_767 : decode cL_law 767 = .ok (.iadd, 1) := by decide +kernel
theorem dL_law_768 : decode cL_law 768 = .ok (.iaload, 1) := by decide +kernel
theorem dL_law_769 : decode cL_law 769 = .ok (.invokevirtual 93, 3) := by decide +kernel
theorem dL_law_772 : decode cL_law 772 = .ok (.if_icmp .eq 770, 3) := by decide +kernel
theorem dL_law_775 : decode cL_law 775 = .ok (.iconst 0, 1) := by decide +kernel
theorem dL_law_776 : decode cL_law 776 = .ok (.ireturn, 1) := by decide +kernel
theorem dL_law_777 : decode cL_law 777 = .ok (.aload_n 1, 1) := by decide +kernel
theorem dL_law_778 : decode cL_law 778 = .ok (.aload_n 0, 1) := by decide +kernel
theorem dL_law_779 : decode cL_law 779 = .ok (.iload_n 3, 1) := by decide +kernel
theorem dL_law_780 : decode cL_law 780 = .ok (.iconst 1, 1) := by decide +kernel
theorem dL_law_781 : decode cL_law 781 = .ok (.iadd, 1) := by decide +kernel
theorem dL_law_782 : decode cL_law 782 = .ok (.iaload, 1) := by decide +kernel
theorem dL_law_783 : decode cL_law 783 = .ok (.aload_n 0, 1) := by decide +kernel
theorem dL_law_784 : decode cL_law 784 = .ok (.iload_n 3, 1) := by decide +kernel
theorem dL_law_785 : decode cL_law 785 = .ok (.iconst 2, 1) := by decide +kernel
theorem dL_law_786 : decode cL_law 786 = .ok (.iadd, 1) := by decide +kernel
theorem dL_law_787 : decode cL_law 787 = .ok (.iaload, 1) := by decide +kernel
theorem dL_law_788 : decode cL_law 788 = .ok (.aload_n 0, 1) := by decide +kernel
theorem dL_law_789 : decode cL_law 789 = .ok (.iload_n 3, 1) := by decide +kernel
theorem dL_law_790 : decode cL_law 790 = .ok (.iconst 3, 1) := by decide +kernel
theorem dL_law_791 : decode cL_law 791 = .ok (.iadd, 1) := by decide +kernel
theorem dL_law_792 : decode cL_law 792 = .ok (.iaload, 1) := by decide +kernel
theorem dL_law_793 : decode cL_law 793 = .ok (.invokevirtual 94, 3) := by decide +kernel
theorem dL_law_796 : decode cL_law 796 = .ok (.aload_n 2, 1) := by decide +kernel
theorem dL_law_797 : decode cL_law 797 = .ok (.aload_n 0, 1) := by decide +kernel
theorem dL_law_798 : decode cL_law 798 = .ok (.iload_n 3, 1) := by decide +kernel
theorem dL_law_799 : decode cL_law 799 = .ok (.iconst 1, 1) := by decide +kernel
theorem dL_law_800 : decode cL_law 800 = .ok (.iadd, 1) := by decide +kernel
theorem dL_law_801 : decode cL_law 801 = .ok (.iaload, 1) := by decide +kernel
theorem dL_law_802 : decode cL_law 802 = .ok (.aload_n 0, 1) := by decide +kernel
theorem dL_law_803 : decode cL_law 803 = .ok (.iload_n 3, 1) := by decide +kernel
theorem dL_law_804 : decode cL_law 804 = .ok (.iconst 2, 1) := by decide +kernel
theorem dL_law_805 : decode cL_law 805 = .ok (.iadd, 1) := by decide +kernel
theorem dL_law_806 : decode cL_law 806 = .ok (.iaload, 1) := by decide +kernel
theorem dL_law_807 : decode cL_law 807 = .ok (.aload_n 0, 1) := by decide +kernel
theorem dL_law_808 : decode cL_law 808 = .ok (.iload_n 3, 1) := by decide +kernel
theorem dL_law_809 : decode cL_law 809 = .ok (.iconst 3, 1) := by decide +kernel
theorem dL_law_810 : decode cL_law 810 = .ok (.iadd, 1) := by decide +kernel
theorem dL_law_811 : decode cL_law 811 = .ok (.iaload, 1) := by decide +kernel
theorem dL_law_812 : decode cL_law 812 = .ok (.invokevirtual 97, 3) := by decide +kernel
theorem dL_law_815 : decode cL_law 815 = .ok (.if_icmp .eq 727, 3) := by decide +kernel
theorem dL_law_818 : decode cL_law 818 = .ok (.iconst 0, 1) := by decide +kernel
theorem dL_law_819 : decode cL_law 819 = .ok (.ireturn, 1) := by decide +kernel
theorem dL_law_820 : decode cL_law 820 = .ok (.aload_n 1, 1) := by decide +kernel
theorem dL_law_821 : decode cL_law 821 = .ok (.aload_n 0, 1) := by decide +kernel
theorem dL_law_822 : decode cL_law 822 = .ok (.iload_n 3, 1) := by decide +kernel
theorem dL_law_823 : decode cL_law 823 = .ok (.iconst 1, 1) := by decide +kernel
theorem dL_law_824 : decode cL_law 824 = .ok (.iadd, 1) := by decide +kernel
theorem dL_law_825 : decode cL_law 825 = .ok (.iaload, 1) := by decide +kernel
theorem dL_law_826 : decode cL_law 826 = .ok (.invokevirtual 98, 3) := by decide +kernel
theorem dL_law_829 : decode cL_law 829 = .ok (.aload_n 2, 1) := by decide +kernel
theorem dL_law_830 : decode cL_law 830 = .ok (.aload_n 0, 1) := by decide +kernel
theorem dL_law_831 : decode cL_law 831 = .ok (.iload_n 3, 1) := by decide +kernel
theorem dL_law_832 : decode cL_law 832 = .ok (.iconst 1, 1) := by decide +kernel
theorem dL_law_833 : decode cL_law 833 = .ok (.iadd, 1) := by decide +kernel
theorem dL_law_834 : decode cL_law 834 = .ok (.iaload, 1) := by decide +kernel
theorem dL_law_835 : decode cL_law 835 = .ok (.invokevirtual 101, 3) := by decide +kernel
theorem dL_law_838 : decode cL_law 838 = .ok (.if_icmp .eq 704, 3) := by decide +kernel
theorem dL_law_841 : decode cL_law 841 = .ok (.iconst 0, 1) := by decide +kernel
theorem dL_law_842 : decode cL_law 842 = .ok (.ireturn, 1) := by decide +kernel
theorem dL_law_843 : decode cL_law 843 = .ok (.aload_n 1, 1) := by decide +kernel
theorem dL_law_844 : decode cL_law 844 = .ok (.aload_n 0, 1) := by decide +kernel
theorem dL_law_845 : decode cL_law 845 = .ok (.iload_n 3, 1) := by decide +kernel
theorem dL_law_846 : decode cL_law 846 = .ok (.iconst 1, 1) := by decide +kernel
theorem dL_law_847 : decode cL_law 847 = .ok (.iadd, 1) := by decide +kernel
theorem dL_law_848 : decode cL_law 848 = .ok (.iaload, 1) := by decide +kernel
theorem dL_law_849 : decode cL_law 849 = .ok (.invokevirtual 102, 3) := by decide +kernel
theorem dL_law_852 : decode cL_law 852 = .ok (.aload_n 2, 1) := by decide +kernel
theorem dL_law_853 : decode cL_law 853 = .ok (.aload_n 0, 1) := by decide +kernel
theorem dL_law_854 : decode cL_law 854 = .ok (.iload_n 3, 1) := by decide +kernel
theorem dL_law_855 : decode cL_law 855 = .ok (.iconst 1, 1) := by decide +kernel
theorem dL_law_856 : decode cL_law 856 = .ok (.iadd, 1) := by decide +kernel
theorem dL_law_857 : decode cL_law 857 = .ok (.iaload, 1) := by decide +kernel
theorem dL_law_858 : decode cL_law 858 = .ok (.invokevirtual 105, 3) := by decide +kernel
theorem dL_law_861 : decode cL_law 861 = .ok (.if_icmp .eq 681, 3) := by decide +kernel
theorem dL_law_864 : decode cL_law 864 = .ok (.iconst 0, 1) := by decide +kernel
theorem dL_law_865 : decode cL_law 865 = .ok (.ireturn, 1) := by decide +kernel
theorem dL_law_866 : decode cL_law 866 = .ok (.aload_n 1, 1) := by decide +kernel
theorem dL_law_867 : decode cL_law 867 = .ok (.aload_n 0, 1) := by decide +kernel
theorem dL_law_868 : decode cL_law 868 = .ok (.iload_n 3, 1) := by decide +kernel
theorem dL_law_869 : decode cL_law 869 = .ok (.iconst 1, 1) := by decide +kernel
theorem dL_law_870 : decode cL_law 870 = .ok (.iadd, 1) := by decide +kernel
theorem dL_law_871 : decode cL_law 871 = .ok (.iaload, 1) := by decide +kernel
theorem dL_law_872 : decode cL_law 872 = .ok (.aload_n 0, 1) := by decide +kernel
theorem dL_law_873 : decode cL_law 873 = .ok (.iload_n 3, 1) := by decide +kernel
theorem dL_law_874 : decode cL_law 874 = .ok (.iconst 2, 1) := by decide +kernel
theorem dL_law_875 : decode cL_law 875 = .ok (.iadd, 1) := by decide +kernel
theorem dL_law_876 : decode cL_law 876 = .ok (.iaload, 1) := by decide +kernel
theorem dL_law_877 : decode cL_law 877 = .ok (.invokevirtual 106, 3) := by decide +kernel
theorem dL_law_880 : decode cL_law 880 = .ok (.aload_n 2, 1) := by decide +kernel
theorem dL_law_881 : decode cL_law 881 = .ok (.aload_n 0, 1) := by decide +kernel
theorem dL_law_882 : decode cL_law 882 = .ok (.iload_n 3, 1) := by decide +kernel
theorem dL_law_883 : decode cL_law 883 = .ok (.iconst 1, 1) := by decide +kernel
theorem dL_law_884 : decode cL_law 884 = .ok (.iadd, 1) := by decide +kernel
theorem dL_law_885 : decode cL_law 885 = .ok (.iaload, 1) := by decide +kernel
theorem dL_law_886 : decode cL_law 886 = .ok (.aload_n 0, 1) := by decide +kernel
theorem dL_law_887 : decode cL_law 887 = .ok (.iload_n 3, 1) := by decide +kernel
theorem dL_law_888 : decode cL_law 888 = .ok (.iconst 2, 1) := by decide +kernel
theorem dL_law_889 : decode cL_law 889 = .ok (.iadd, 1) := by decide +kernel
theorem dL_law_890 : decode cL_law 890 = .ok (.iaload, 1) := by decide +kernel
theorem dL_law_891 : decode cL_law 891 = .ok (.invokevirtual 109, 3) := by decide +kernel
theorem dL_law_894 : decode cL_law 894 = .ok (.if_icmp .eq 648, 3) := by decide +kernel
theorem dL_law_897 : decode cL_law 897 = .ok (.iconst 0, 1) := by decide +kernel
theorem dL_law_898 : decode cL_law 898 = .ok (.ireturn, 1) := by decide +kernel
theorem dL_law_899 : decode cL_law 899 = .ok (.aload_n 1, 1) := by decide +kernel
theorem dL_law_900 : decode cL_law 900 = .ok (.aload_n 0, 1) := by decide +kernel
theorem dL_law_901 : decode cL_law 901 = .ok (.iload_n 3, 1) := by decide +kernel
theorem dL_law_902 : decode cL_law 902 = .ok (.iconst 1, 1) := by decide +kernel
theorem dL_law_903 : decode cL_law 903 = .ok (.iadd, 1) := by decide +kernel
theorem dL_law_904 : decode cL_law 904 = .ok (.iaload, 1) := by decide +kernel
theorem dL_law_905 : decode cL_law 905 = .ok (.invokevirtual 110, 3) := by decide +kernel
theorem dL_law_908 : decode cL_law 908 = .ok (.aload_n 2, 1) := by decide +kernel
theorem dL_law_909 : decode cL_law 909 = .ok (.aload_n 0, 1) := by decide +kernel
theorem dL_law_910 : decode cL_law 910 = .ok (.iload_n 3, 1) := by decide +kernel
theorem dL_law_911 : decode cL_law 911 = .ok (.iconst 1, 1) := by decide +kernel
theorem dL_law_912 : decode cL_law 912 = .ok (.iadd, 1) := by decide +kernel
theorem dL_law_913 : decode cL_law 913 = .ok (.iaload, 1) := by decide +kernel
theorem dL_law_914 : decode cL_law 914 = .ok (.invokevirtual 113, 3) := by decide +kernel
theorem dL_law_917 : decode cL_law 917 = .ok (.if_icmp .eq 625, 3) := by decide +kernel
theorem dL_law_920 : decode cL_law 920 = .ok (.iconst 0, 1) := by decide +kernel
theorem dL_law_921 : decode cL_law 921 = .ok (.ireturn, 1) := by decide +kernel
theorem dL_law_922 : decode cL_law 922 = .ok (.aload_n 1, 1) := by decide +kernel
theorem dL_law_923 : decode cL_law 923 = .ok (.aload_n 0, 1) := by decide +kernel
theorem dL_law_924 : decode cL_law 924 = .ok (.iload_n 3, 1) := by decide +kernel
theorem dL_law_925 : decode cL_law 925 = .ok (.iconst 1, 1) := by decide +kernel
theorem dL_law_926 : decode cL_law 926 = .ok (.iadd, 1) := by decide +kernel
theorem dL_law_927 : decode cL_law 927 = .ok (.iaload, 1) := by decide +kernel
theorem dL_law_928 : decode cL_law 928 = .ok (.aload_n 0, 1) := by decide +kernel
theorem dL_law_929 : decode cL_law 929 = .ok (.iload_n 3, 1) := by decide +kernel
theorem dL_law_930 : decode cL_law 930 = .ok (.iconst 2, 1) := by decide +kernel
theorem dL_law_931 : decode cL_law 931 = .ok (.iadd, 1) := by decide +kernel
theorem dL_law_932 : decode cL_law 932 = .ok (.iaload, 1) := by decide +kernel
theorem dL_law_933 : decode cL_law 933 = .ok (.invokevirtual 114, 3) := by decide +kernel
theorem dL_law_936 : decode cL_law 936 = .ok (.aload_n 2, 1) := by decide +kernel
theorem dL_law_937 : decode cL_law 937 = .ok (.aload_n 0, 1) := by decide +kernel
theorem dL_law_938 : decode cL_law 938 = .ok (.iload_n 3, 1) := by decide +kernel
theorem dL_law_939 : decode cL_law 939 = .ok (.iconst 1, 1) := by decide +kernel
theorem dL_law_940 : decode cL_law 940 = .ok (.iadd, 1) := by decide +kernel
theorem dL_law_941 : decode cL_law 941 = .ok (.iaload, 1) := by decide +kernel
theorem dL_law_942 : decode cL_law 942 = .ok (.aload_n 0, 1) := by decide +kernel
theorem dL_law_943 : decode cL_law 943 = .ok (.iload_n 3, 1) := by decide +kernel
theorem dL_law_944 : decode cL_law 944 = .ok (.iconst 2, 1) := by decide +kernel
theorem dL_law_945 : decode cL_law 945 = .ok (.iadd, 1) := by decide +kernel
theorem dL_law_946 : decode cL_law 946 = .ok (.iaload, 1) := by decide +kernel
theorem dL_law_947 : decode cL_law 947 = .ok (.invokevirtual 117, 3) := by decide +kernel
theorem dL_law_950 : decode cL_law 950 = .ok (.if_icmp .eq 592, 3) := by decide +kernel
theorem dL_law_953 : decode cL_law 953 = .ok (.iconst 0, 1) := by decide +kernel
theorem dL_law_954 : decode cL_law 954 = .ok (.ireturn, 1) := by decide +kernel
theorem dL_law_955 : decode cL_law 955 = .ok (.aload_n 1, 1) := by decide +kernel
theorem dL_law_956 : decode cL_law 956 = .ok (.aload_n 0, 1) := by decide +kernel
theorem dL_law_957 : decode cL_law 957 = .ok (.iload_n 3, 1) := by decide +kernel
theorem dL_law_958 : decode cL_law 958 = .ok (.iconst 1, 1) := by decide +kernel
theorem dL_law_959 : decode cL_law 959 = .ok (.iadd, 1) := by decide +kernel
theorem dL_law_960 : decode cL_law 960 = .ok (.iaload, 1) := by decide +kernel
theorem dL_law_961 : decode cL_law 961 = .ok (.aload_n 0, 1) := by decide +kernel
theorem dL_law_962 : decode cL_law 962 = .ok (.iload_n 3, 1) := by decide +kernel
theorem dL_law_963 : decode cL_law 963 = .ok (.iconst 2, 1) := by decide +kernel
theorem dL_law_964 : decode cL_law 964 = .ok (.iadd, 1) := by decide +kernel
theorem dL_law_965 : decode cL_law 965 = .ok (.iaload, 1) := by decide +kernel
theorem dL_law_966 : decode cL_law 966 = .ok (.invokevirtual 118, 3) := by decide +kernel
theorem dL_law_969 : decode cL_law 969 = .ok (.aload_n 2, 1) := by decide +kernel
theorem dL_law_970 : decode cL_law 970 = .ok (.aload_n 0, 1) := by decide +kernel
theorem dL_law_971 : decode cL_law 971 = .ok (.iload_n 3, 1) := by decide +kernel
theorem dL_law_972 : decode cL_law 972 = .ok (.iconst 1, 1) := by decide +kernel
theorem dL_law_973 : decode cL_law 973 = .ok (.iadd, 1) := by decide +kernel
theorem dL_law_974 : decode cL_law 974 = .ok (.iaload, 1) := by decide +kernel
theorem dL_law_975 : decode cL_law 975 = .ok (.aload_n 0, 1) := by decide +kernel
theorem dL_law_976 : decode cL_law 976 = .ok (.iload_n 3, 1) := by decide +kernel
theorem dL_law_977 : decode cL_law 977 = .ok (.iconst 2, 1) := by decide +kernel
theorem dL_law_978 : decode cL_law 978 = .ok (.iadd, 1) := by decide +kernel
theorem dL_law_979 : decode cL_law 979 = .ok (.iaload, 1) := by decide +kernel
theorem dL_law_980 : decode cL_law 980 = .ok (.invokevirtual 121, 3) := by decide +kernel
theorem dL_law_983 : decode cL_law 983 = .ok (.if_icmp .eq 559, 3) := by decide +kernel
theorem dL_law_986 : decode cL_law 986 = .ok (.iconst 0, 1) := by decide +kernel
theorem dL_law_987 : decode cL_law 987 = .ok (.ireturn, 1) := by decide +kernel
theorem dL_law_988 : decode cL_law 988 = .ok (.aload_n 1, 1) := by decide +kernel
theorem dL_law_989 : decode cL_law 989 = .ok (.aload_n 0, 1) := by decide +kernel
theorem dL_law_990 : decode cL_law 990 = .ok (.iload_n 3, 1) := by decide +kernel
theorem dL_law_991 : decode cL_law 991 = .ok (.iconst 1, 1) := by decide +kernel
theorem dL_law_992 : decode cL_law 992 = .ok (.iadd, 1) := by decide +kernel
theorem dL_law_993 : decode cL_law 993 = .ok (.iaload, 1) := by decide +kernel
theorem dL_law_994 : decode cL_law 994 = .ok (.invokevirtual 122, 3) := by decide +kernel
theorem dL_law_997 : decode cL_law 997 = .ok (.aload_n 2, 1) := by decide +kernel
theorem dL_law_998 : decode cL_law 998 = .ok (.aload_n 0, 1) := by decide +kernel
theorem dL_law_999 : decode cL_law 999 = .ok (.iload_n 3, 1) := by decide +kernel
theorem dL_law_1000 : decode cL_law 1000 = .ok (.iconst 1, 1) := by decide +kernel
theorem dL_law_1001 : decode cL_law 1001 = .ok (.iadd, 1) := by decide +kernel
theorem dL_law_1002 : decode cL_law 1002 = .ok (.iaload, 1) := by decide +kernel
theorem dL_law_1003 : decode cL_law 1003 = .ok (.invokevirtual 125, 3) := by decide +kernel
theorem dL_law_1006 : decode cL_law 1006 = .ok (.if_icmp .eq 536, 3) := by decide +kernel
theorem dL_law_1009 : decode cL_law 1009 = .ok (.iconst 0, 1) := by decide +kernel
theorem dL_law_1010 : decode cL_law 1010 = .ok (.ireturn, 1) := by decide +kernel
theorem dL_law_1011 : decode cL_law 1011 = .ok (.aload_n 1, 1) := by decide +kernel
theorem dL_law_1012 : decode cL_law 1012 = .ok (.invokevirtual 126, 3) := by decide +kernel
theorem dL_law_1015 : decode cL_law 1015 = .ok (.aload_n 2, 1) := by decide +kernel
theorem dL_law_1016 : decode cL_law 1016 = .ok (.invokevirtual 129, 3) := by decide +kernel
theorem dL_law_1019 : decode cL_law 1019 = .ok (.if_icmp .eq 523, 3) := by decide +kernel
theorem dL_law_1022 : decode cL_law 1022 = .ok (.iconst 0, 1) := by decide +kernel
theorem dL_law_1023 : decode cL_law 1023 = .ok (.ireturn, 1) := by decide +kernel
theorem dL_law_1024 : decode cL_law 1024 = .ok (.aload_n 1, 1) := by decide +kernel
theorem dL_law_1025 : decode cL_law 1025 = .ok (.aload_n 0, 1) := by decide +kernel
theorem dL_law_1026 : decode cL_law 1026 = .ok (.iload_n 3, 1) := by decide +kernel
theorem dL_law_1027 : decode cL_law 1027 = .ok (.iconst 1, 1) := by decide +kernel
theorem dL_law_1028 : decode cL_law 1028 = .ok (.iadd, 1) := by decide +kernel
theorem dL_law_1029 : decode cL_law 1029 = .ok (.iaload, 1) := by decide +kernel
theorem dL_law_1030 : decode cL_law 1030 = .ok (.aload_n 0, 1) := by decide +kernel
theorem dL_law_1031 : decode cL_law 1031 = .ok (.iload_n 3, 1) := by decide +kernel
theorem dL_law_1032 : decode cL_law 1032 = .ok (.iconst 2, 1) := by decide +kernel
theorem dL_law_1033 : decode cL_law 1033 = .ok (.iadd, 1) := by decide +kernel
theorem dL_law_1034 : decode cL_law 1034 = .ok (.iaload, 1) := by decide +kernel
theorem dL_law_1035 : decode cL_law 1035 = .ok (.aload_n 0, 1) := by decide +kernel
theorem dL_law_1036 : decode cL_law 1036 = .ok (.iload_n 3, 1) := by decide +kernel
theorem dL_law_1037 : decode cL_law 1037 = .ok (.iconst 3, 1) := by decide +kernel
theorem dL_law_1038 : decode cL_law 1038 = .ok (.iadd, 1) := by decide +kernel
theorem dL_law_1039 : decode cL_law 1039 = .ok (.iaload, 1) := by decide +kernel
theorem dL_law_1040 : decode cL_law 1040 = .ok (.invokevirtual 130, 3) := by decide +kernel
theorem dL_law_1043 : decode cL_law 1043 = .ok (.aload_n 2, 1) := by decide +kernel
theorem dL_law_1044 : decode cL_law 1044 = .ok (.aload_n 0, 1) := by decide +kernel
theorem dL_law_1045 : decode cL_law 1045 = .ok (.iload_n 3, 1) := by decide +kernel
theorem dL_law_1046 : decode cL_law 1046 = .ok (.iconst 1, 1) := by decide +kernel
theorem dL_law_1047 : decode cL_law 1047 = .ok (.iadd, 1) := by decide +kernel
theorem dL_law_1048 : decode cL_law 1048 = .ok (.iaload, 1) := by decide +kernel
theorem dL_law_1049 : decode cL_law 1049 = .ok (.aload_n 0, 1) := by decide +kernel
theorem dL_law_1050 : decode cL_law 1050 = .ok (.iload_n 3, 1) := by decide +kernel
theorem dL_law_1051 : decode cL_law 1051 = .ok (.iconst 2, 1) := by decide +kernel
theorem dL_law_1052 : decode cL_law 1052 = .ok (.iadd, 1) := by decide +kernel
theorem dL_law_1053 : decode cL_law 1053 = .ok (.iaload, 1) := by decide +kernel
theorem dL_law_1054 : decode cL_law 1054 = .ok (.aload_n 0, 1) := by decide +kernel
theorem dL_law_1055 : decode cL_law 1055 = .ok (.iload_n 3, 1) := by decide +kernel
theorem dL_law_1056 : decode cL_law 1056 = .ok (.iconst 3, 1) := by decide +kernel
theorem dL_law_1057 : decode cL_law 1057 = .ok (.iadd, 1) := by decide +kernel
theorem dL_law_1058 : decode cL_law 1058 = .ok (.iaload, 1) := by decide +kernel
theorem dL_law_1059 : decode cL_law 1059 = .ok (.invokevirtual 134, 3) := by decide +kernel
theorem dL_law_1062 : decode cL_law 1062 = .ok (.lcmp, 1) := by decide +kernel
theorem dL_law_1063 : decode cL_law 1063 = .ok (.ifCond .eq 479, 3) := by decide +kernel
theorem dL_law_1066 : decode cL_law 1066 = .ok (.iconst 0, 1) := by decide +kernel
theorem dL_law_1067 : decode cL_law 1067 = .ok (.ireturn, 1) := by decide +kernel
theorem dL_law_1068 : decode cL_law 1068 = .ok (.aload_n 1, 1) := by decide +kernel
theorem dL_law_1069 : decode cL_law 1069 = .ok (.aload_n 0, 1) := by decide +kernel
theorem dL_law_1070 : decode cL_law 1070 = .ok (.iload_n 3, 1) := by decide +kernel
theorem dL_law_1071 : decode cL_law 1071 = .ok (.iconst 1, 1) := by decide +kernel
theorem dL_law_1072 : decode cL_law 1072 = .ok (.iadd, 1) := by decide +kernel
theorem dL_law_1073 : decode cL_law 1073 = .ok (.iaload, 1) := by decide +kernel
theorem dL_law_1074 : decode cL_law 1074 = .ok (.aload_n 0, 1) := by decide +kernel
theorem dL_law_1075 : decode cL_law 1075 = .ok (.iload_n 3, 1) := by decide +kernel
theorem dL_law_1076 : decode cL_law 1076 = .ok (.iconst 2, 1) := by decide +kernel
theorem dL_law_1077 : decode cL_law 1077 = .ok (.iadd, 1) := by decide +kernel
theorem dL_law_1078 : decode cL_law 1078 = .ok (.iaload, 1) := by decide +kernel
theorem dL_law_1079 : decode cL_law 1079 = .ok (.invokevirtual 135, 3) := by decide +kernel
theorem dL_law_1082 : decode cL_law 1082 = .ok (.aload_n 2, 1) := by decide +kernel
theorem dL_law_1083 : decode cL_law 1083 = .ok (.aload_n 0, 1) := by decide +kernel
theorem dL_law_1084 : decode cL_law 1084 = .ok (.iload_n 3, 1) := by decide +kernel
theorem dL_law_1085 : decode cL_law 1085 = .ok (.iconst 1, 1) := by decide +kernel
theorem dL_law_1086 : decode cL_law 1086 = .ok (.iadd, 1) := by decide +kernel
theorem dL_law_1087 : decode cL_law 1087 = .ok (.iaload, 1) := by decide +kernel
theorem dL_law_1088 : decode cL_law 1088 = .ok (.aload_n 0, 1) := by decide +kernel
theorem dL_law_1089 : decode cL_law 1089 = .ok (.iload_n 3, 1) := by decide +kernel
theorem dL_law_1090 : decode cL_law 1090 = .ok (.iconst 2, 1) := by decide +kernel
theorem dL_law_1091 : decode cL_law 1091 = .ok (.iadd, 1) := by decide +kernel
theorem dL_law_1092 : decode cL_law 1092 = .ok (.iaload, 1) := by decide +kernel
theorem dL_law_1093 : decode cL_law 1093 = .ok (.invokevirtual 139, 3) := by decide +kernel
theorem dL_law_1096 : decode cL_law 1096 = .ok (.lcmp, 1) := by decide +kernel
theorem dL_law_1097 : decode cL_law 1097 = .ok (.ifCond .eq 445, 3) := by decide +kernel
theorem dL_law_1100 : decode cL_law 1100 = .ok (.iconst 0, 1) := by decide +kernel
theorem dL_law_1101 : decode cL_law 1101 = .ok (.ireturn, 1) := by decide +kernel
theorem dL_law_1102 : decode cL_law 1102 = .ok (.aload_n 1, 1) := by decide +kernel
theorem dL_law_1103 : decode cL_law 1103 = .ok (.aload_n 0, 1) := by decide +kernel
theorem dL_law_1104 : decode cL_law 1104 = .ok (.iload_n 3, 1) := by decide +kernel
theorem dL_law_1105 : decode cL_law 1105 = .ok (.iconst 1, 1) := by decide +kernel
theorem dL_law_1106 : decode cL_law 1106 = .ok (.iadd, 1) := by decide +kernel
theorem dL_law_1107 : decode cL_law 1107 = .ok (.iaload, 1) := by decide +kernel
theorem dL_law_1108 : decode cL_law 1108 = .ok (.aload_n 0, 1) := by decide +kernel
theorem dL_law_1109 : decode cL_law 1109 = .ok (.iload_n 3, 1) := by decide +kernel
theorem dL_law_1110 : decode cL_law 1110 = .ok (.iconst 2, 1) := by decide +kernel
theorem dL_law_1111 : decode cL_law 1111 = .ok (.iadd, 1) := by decide +kernel
theorem dL_law_1112 : decode cL_law 1112 = .ok (.iaload, 1) := by decide +kernel
theorem dL_law_1113 : decode cL_law 1113 = .ok (.invokevirtual 140, 3) := by decide +kernel
theorem dL_law_1116 : decode cL_law 1116 = .ok (.aload_n 2, 1) := by decide +kernel
theorem dL_law_1117 : decode cL_law 1117 = .ok (.aload_n 0, 1) := by decide +kernel
theorem dL_law_1118 : decode cL_law 1118 = .ok (.iload_n 3, 1) := by decide +kernel
theorem dL_law_1119 : decode cL_law 1119 = .ok (.iconst 1, 1) := by decide +kernel
theorem dL_law_1120 : decode cL_law 1120 = .ok (.iadd, 1) := by decide +kernel
theorem dL_law_1121 : decode cL_law 1121 = .ok (.iaload, 1) := by decide +kernel
theorem dL_law_1122 : decode cL_law 1122 = .ok (.aload_n 0, 1) := by decide +kernel
theorem dL_law_1123 : decode cL_law 1123 = .ok (.iload_n 3, 1) := by decide +kernel
theorem dL_law_1124 : decode cL_law 1124 = .ok (.iconst 2, 1) := by decide +kernel
theorem dL_law_1125 : decode cL_law 1125 = .ok (.iadd, 1) := by decide +kernel
theorem dL_law_1126 : decode cL_law 1126 = .ok (.iaload, 1) := by decide +kernel
theorem dL_law_1127 : decode cL_law 1127 = .ok (.invokevirtual 143, 3) := by decide +kernel
theorem dL_law_1130 : decode cL_law 1130 = .ok (.if_icmp .eq 412, 3) := by decide +kernel
theorem dL_law_1133 : decode cL_law 1133 = .ok (.iconst 0, 1) := by decide +kernel
theorem dL_law_1134 : decode cL_law 1134 = .ok (.ireturn, 1) := by decide +kernel
theorem dL_law_1135 : decode cL_law 1135 = .ok (.aload_n 1, 1) := by decide +kernel
theorem dL_law_1136 : decode cL_law 1136 = .ok (.invokevirtual 144, 3) := by decide +kernel
theorem dL_law_1139 : decode cL_law 1139 = .ok (.aload_n 2, 1) := by decide +kernel
theorem dL_law_1140 : decode cL_law 1140 = .ok (.invokevirtual 147, 3) := by decide +kernel
theorem dL_law_1143 : decode cL_law 1143 = .ok (.if_icmp .eq 399, 3) := by decide +kernel
theorem dL_law_1146 : decode cL_law 1146 = .ok (.iconst 0, 1) := by decide +kernel
theorem dL_law_1147 : decode cL_law 1147 = .ok (.ireturn, 1) := by decide +kernel
theorem dL_law_1148 : decode cL_law 1148 = .ok (.aload_n 1, 1) := by decide +kernel
theorem dL_law_1149 : decode cL_law 1149 = .ok (.aload_n 0, 1) := by decide +kernel
theorem dL_law_1150 : decode cL_law 1150 = .ok (.iload_n 3, 1) := by decide +kernel
theorem dL_law_1151 : decode cL_law 1151 = .ok (.iconst 1, 1) := by decide +kernel
theorem dL_law_1152 : decode cL_law 1152 = .ok (.iadd, 1) := by decide +kernel
theorem dL_law_1153 : decode cL_law 1153 = .ok (.iaload, 1) := by decide +kernel
theorem dL_law_1154 : decode cL_law 1154 = .ok (.aload_n 0, 1) := by decide +kernel
theorem dL_law_1155 : decode cL_law 1155 = .ok (.iload_n 3, 1) := by decide +kernel
theorem dL_law_1156 : decode cL_law 1156 = .ok (.iconst 2, 1) := by decide +kernel
theorem dL_law_1157 : decode cL_law 1157 = .ok (.iadd, 1) := by decide +kernel
theorem dL_law_1158 : decode cL_law 1158 = .ok (.iaload, 1) := by decide +kernel
theorem dL_law_1159 : decode cL_law 1159 = .ok (.invokevirtual 148, 3) := by decide +kernel
theorem dL_law_1162 : decode cL_law 1162 = .ok (.aload_n 2, 1) := by decide +kernel
theorem dL_law_1163 : decode cL_law 1163 = .ok (.aload_n 0, 1) := by decide +kernel
theorem dL_law_1164 : decode cL_law 1164 = .ok (.iload_n 3, 1) := by decide +kernel
theorem dL_law_1165 : decode cL_law 1165 = .ok (.iconst 1, 1) := by decide +kernel
theorem dL_law_1166 : decode cL_law 1166 = .ok (.iadd, 1) := by decide +kernel
theorem dL_law_1167 : decode cL_law 1167 = .ok (.iaload, 1) := by decide +kernel
theorem dL_law_1168 : decode cL_law 1168 = .ok (.aload_n 0, 1) := by decide +kernel
theorem dL_law_1169 : decode cL_law 1169 = .ok (.iload_n 3, 1) := by decide +kernel
theorem dL_law_1170 : decode cL_law 1170 = .ok (.iconst 2, 1) := by decide +kernel
theorem dL_law_1171 : decode cL_law 1171 = .ok (.iadd, 1) := by decide +kernel
theorem dL_law_1172 : decode cL_law 1172 = .ok (.iaload, 1) := by decide +kernel
theorem dL_law_1173 : decode cL_law 1173 = .ok (.invokevirtual 151, 3) := by decide +kernel
theorem dL_law_1176 : decode cL_law 1176 = .ok (.if_icmp .eq 366, 3) := by decide +kernel
theorem dL_law_1179 : decode cL_law 1179 = .ok (.iconst 0, 1) := by decide +kernel
theorem dL_law_1180 : decode cL_law 1180 = .ok (.ireturn, 1) := by decide +kernel
theorem dL_law_1181 : decode cL_law 1181 = .ok (.aload_n 1, 1) := by decide +kernel
theorem dL_law_1182 : decode cL_law 1182 = .ok (.invokevirtual 152, 3) := by decide +kernel
theorem dL_law_1185 : decode cL_law 1185 = .ok (.aload_n 2, 1) := by decide +kernel
theorem dL_law_1186 : decode cL_law 1186 = .ok (.invokevirtual 155, 3) := by decide +kernel
theorem dL_law_1189 : decode cL_law 1189 = .ok (.if_icmp .eq 353, 3) := by decide +kernel
theorem dL_law_1192 : decode cL_law 1192 = .ok (.iconst 0, 1) := by decide +kernel
theorem dL_law_1193 : decode cL_law 1193 = .ok (.ireturn, 1) := by decide +kernel
theorem dL_law_1194 : decode cL_law 1194 = .ok (.aload_n 1, 1) := by decide +kernel
theorem dL_law_1195 : decode cL_law 1195 = .ok (.invokevirtual 156, 3) := by decide +kernel
theorem dL_law_1198 : decode cL_law 1198 = .ok (.aload_n 2, 1) := by decide +kernel
theorem dL_law_1199 : decode cL_law 1199 = .ok (.invokevirtual 159, 3) := by decide +kernel
theorem dL_law_1202 : decode cL_law 1202 = .ok (.if_icmp .eq 340, 3) := by decide +kernel
theorem dL_law_1205 : decode cL_law 1205 = .ok (.iconst 0, 1) := by decide +kernel
theorem dL_law_1206 : decode cL_law 1206 = .ok (.ireturn, 1) := by decide +kernel
theorem dL_law_1207 : decode cL_law 1207 = .ok (.aload_n 1, 1) := by decide +kernel
theorem dL_law_1208 : decode cL_law 1208 = .ok (.aload_n 0, 1) := by decide +kernel
theorem dL_law_1209 : decode cL_law 1209 = .ok (.iload_n 3, 1) := by decide +kernel
theorem dL_law_1210 : decode cL_law 1210 = .ok (.iconst 1, 1) := by decide +kernel
theorem dL_law_1211 : decode cL_law 1211 = .ok (.iadd, 1) := by decide +kernel
theorem dL_law_1212 : decode cL_law 1212 = .ok (.iaload, 1) := by decide +kernel
theorem dL_law_1213 : decode cL_law 1213 = .ok (.aload_n 0, 1) := by decide +kernel
theorem dL_law_1214 : decode cL_law 1214 = .ok (.iload_n 3, 1) := by decide +kernel
theorem dL_law_1215 : decode cL_law 1215 = .ok (.iconst 2, 1) := by decide +kernel
theorem dL_law_1216 : decode cL_law 1216 = .ok (.iadd, 1) := by decide +kernel
theorem dL_law_1217 : decode cL_law 1217 = .ok (.iaload, 1) := by decide +kernel
theorem dL_law_1218 : decode cL_law 1218 = .ok (.aload_n 0, 1) := by decide +kernel
theorem dL_law_1219 : decode cL_law 1219 = .ok (.iload_n 3, 1) := by decide +kernel
theorem dL_law_1220 : decode cL_law 1220 = .ok (.iconst 3, 1) := by decide +kernel
theorem dL_law_1221 : decode cL_law 1221 = .ok (.iadd, 1) := by decide +kernel
theorem dL_law_1222 : decode cL_law 1222 = .ok (.iaload, 1) := by decide +kernel
theorem dL_law_1223 : decode cL_law 1223 = .ok (.invokevirtual 160, 3) := by decide +kernel
theorem dL_law_1226 : decode cL_law 1226 = .ok (.aload_n 2, 1) := by decide +kernel
theorem dL_law_1227 : decode cL_law 1227 = .ok (.aload_n 0, 1) := by decide +kernel
theorem dL_law_1228 : decode cL_law 1228 = .ok (.iload_n 3, 1) := by decide +kernel
theorem dL_law_1229 : decode cL_law 1229 = .ok (.iconst 1, 1) := by decide +kernel
theorem dL_law_1230 : decode cL_law 1230 = .ok (.iadd, 1) := by decide +kernel
theorem dL_law_1231 : decode cL_law 1231 = .ok (.iaload, 1) := by decide +kernel
theorem dL_law_1232 : decode cL_law 1232 = .ok (.aload_n 0, 1) := by decide +kernel
theorem dL_law_1233 : decode cL_law 1233 = .ok (.iload_n 3, 1) := by decide +kernel
theorem dL_law_1234 : decode cL_law 1234 = .ok (.iconst 2, 1) := by decide +kernel
theorem dL_law_1235 : decode cL_law 1235 = .ok (.iadd, 1) := by decide +kernel
theorem dL_law_1236 : decode cL_law 1236 = .ok (.iaload, 1) := by decide +kernel
theorem dL_law_1237 : decode cL_law 1237 = .ok (.aload_n 0, 1) := by decide +kernel
theorem dL_law_1238 : decode cL_law 1238 = .ok (.iload_n 3, 1) := by decide +kernel
theorem dL_law_1239 : decode cL_law 1239 = .ok (.iconst 3, 1) := by decide +kernel
theorem dL_law_1240 : decode cL_law 1240 = .ok (.iadd, 1) := by decide +kernel
theorem dL_law_1241 : decode cL_law 1241 = .ok (.iaload, 1) := by decide +kernel
theorem dL_law_1242 : decode cL_law 1242 = .ok (.invokevirtual 163, 3) := by decide +kernel
theorem dL_law_1245 : decode cL_law 1245 = .ok (.if_icmp .eq 297, 3) := by decide +kernel
theorem dL_law_1248 : decode cL_law 1248 = .ok (.iconst 0, 1) := by decide +kernel
theorem dL_law_1249 : decode cL_law 1249 = .ok (.ireturn, 1) := by decide +kernel
theorem dL_law_1250 : decode cL_law 1250 = .ok (.aload_n 1, 1) := by decide +kernel
theorem dL_law_1251 : decode cL_law 1251 = .ok (.aload_n 0, 1) := by decide +kernel
theorem dL_law_1252 : decode cL_law 1252 = .ok (.iload_n 3, 1) := by decide +kernel
theorem dL_law_1253 : decode cL_law 1253 = .ok (.iconst 1, 1) := by decide +kernel
theorem dL_law_1254 : decode cL_law 1254 = .ok (.iadd, 1) := by decide +kernel
theorem dL_law_1255 : decode cL_law 1255 = .ok (.iaload, 1) := by decide +kernel
theorem dL_law_1256 : decode cL_law 1256 = .ok (.invokevirtual 164, 3) := by decide +kernel
theorem dL_law_1259 : decode cL_law 1259 = .ok (.aload_n 2, 1) := by decide +kernel
theorem dL_law_1260 : decode cL_law 1260 = .ok (.aload_n 0, 1) := by decide +kernel
theorem dL_law_1261 : decode cL_law 1261 = .ok (.iload_n 3, 1) := by decide +kernel
theorem dL_law_1262 : decode cL_law 1262 = .ok (.iconst 1, 1) := by decide +kernel
theorem dL_law_1263 : decode cL_law 1263 = .ok (.iadd, 1) := by decide +kernel
theorem dL_law_1264 : decode cL_law 1264 = .ok (.iaload, 1) := by decide +kernel
theorem dL_law_1265 : decode cL_law 1265 = .ok (.invokevirtual 167, 3) := by decide +kernel
theorem dL_law_1268 : decode cL_law 1268 = .ok (.if_icmp .eq 274, 3) := by decide +kernel
theorem dL_law_1271 : decode cL_law 1271 = .ok (.iconst 0, 1) := by decide +kernel
theorem dL_law_1272 : decode cL_law 1272 = .ok (.ireturn, 1) := by decide +kernel
theorem dL_law_1273 : decode cL_law 1273 = .ok (.aload_n 1, 1) := by decide +kernel
theorem dL_law_1274 : decode cL_law 1274 = .ok (.aload_n 0, 1) := by decide +kernel
theorem dL_law_1275 : decode cL_law 1275 = .ok (.iload_n 3, 1) := by decide +kernel
theorem dL_law_1276 : decode cL_law 1276 = .ok (.iconst 1, 1) := by decide +kernel
theorem dL_law_1277 : decode cL_law 1277 = .ok (.iadd, 1) := by decide +kernel
theorem dL_law_1278 : decode cL_law 1278 = .ok (.iaload, 1) := by decide +kernel
theorem dL_law_1279 : decode cL_law 1279 = .ok (.aload_n 0, 1) := by decide +kernel
theorem dL_law_1280 : decode cL_law 1280 = .ok (.iload_n 3, 1) := by decide +kernel
theorem dL_law_1281 : decode cL_law 1281 = .ok (.iconst 2, 1) := by decide +kernel
theorem dL_law_1282 : decode cL_law 1282 = .ok (.iadd, 1) := by decide +kernel
theorem dL_law_1283 : decode cL_law 1283 = .ok (.iaload, 1) := by decide +kernel
theorem dL_law_1284 : decode cL_law 1284 = .ok (.invokevirtual 168, 3) := by decide +kernel
theorem dL_law_1287 : decode cL_law 1287 = .ok (.aload_n 2, 1) := by decide +kernel
theorem dL_law_1288 : decode cL_law 1288 = .ok (.aload_n 0, 1) := by decide +kernel
theorem dL_law_1289 : decode cL_law 1289 = .ok (.iload_n 3, 1) := by decide +kernel
theorem dL_law_1290 : decode cL_law 1290 = .ok (.iconst 1, 1) := by decide +kernel
theorem dL_law_1291 : decode cL_law 1291 = .ok (.iadd, 1) := by decide +kernel
theorem dL_law_1292 : decode cL_law 1292 = .ok (.iaload, 1) := by decide +kernel
theorem dL_law_1293 : decode cL_law 1293 = .ok (.aload_n 0, 1) := by decide +kernel
theorem dL_law_1294 : decode cL_law 1294 = .ok (.iload_n 3, 1) := by decide +kernel
theorem dL_law_1295 : decode cL_law 1295 = .ok (.iconst 2, 1) := by decide +kernel
theorem dL_law_1296 : decode cL_law 1296 = .ok (.iadd, 1) := by decide +kernel
theorem dL_law_1297 : decode cL_law 1297 = .ok (.iaload, 1) := by decide +kernel
theorem dL_law_1298 : decode cL_law 1298 = .ok (.invokevirtual 171, 3) := by decide +kernel
theorem dL_law_1301 : decode cL_law 1301 = .ok (.if_icmp .eq 241, 3) := by decide +kernel
theorem dL_law_1304 : decode cL_law 1304 = .ok (.iconst 0, 1) := by decide +kernel
theorem dL_law_1305 : decode cL_law 1305 = .ok (.ireturn, 1) := by decide +kernel
theorem dL_law_1306 : decode cL_law 1306 = .ok (.aload_n 1, 1) := by decide +kernel
theorem dL_law_1307 : decode cL_law 1307 = .ok (.aload_n 0, 1) := by decide +kernel
theorem dL_law_1308 : decode cL_law 1308 = .ok (.iload_n 3, 1) := by decide +kernel
theorem dL_law_1309 : decode cL_law 1309 = .ok (.iconst 1, 1) := by decide +kernel
theorem dL_law_1310 : decode cL_law 1310 = .ok (.iadd, 1) := by decide +kernel
theorem dL_law_1311 : decode cL_law 1311 = .ok (.iaload, 1) := by decide +kernel
theorem dL_law_1312 : decode cL_law 1312 = .ok (.invokevirtual 172, 3) := by decide +kernel
theorem dL_law_1315 : decode cL_law 1315 = .ok (.aload_n 2, 1) := by decide +kernel
theorem dL_law_1316 : decode cL_law 1316 = .ok (.aload_n 0, 1) := by decide +kernel
theorem dL_law_1317 : decode cL_law 1317 = .ok (.iload_n 3, 1) := by decide +kernel
theorem dL_law_1318 : decode cL_law 1318 = .ok (.iconst 1, 1) := by decide +kernel
theorem dL_law_1319 : decode cL_law 1319 = .ok (.iadd, 1) := by decide +kernel
theorem dL_law_1320 : decode cL_law 1320 = .ok (.iaload, 1) := by decide +kernel
theorem dL_law_1321 : decode cL_law 1321 = .ok (.invokevirtual 175, 3) := by decide +kernel
theorem dL_law_1324 : decode cL_law 1324 = .ok (.if_icmp .eq 218, 3) := by decide +kernel
theorem dL_law_1327 : decode cL_law 1327 = .ok (.iconst 0, 1) := by decide +kernel
theorem dL_law_1328 : decode cL_law 1328 = .ok (.ireturn, 1) := by decide +kernel
theorem dL_law_1329 : decode cL_law 1329 = .ok (.aload_n 1, 1) := by decide +kernel
theorem dL_law_1330 : decode cL_law 1330 = .ok (.aload_n 0, 1) := by decide +kernel
theorem dL_law_1331 : decode cL_law 1331 = .ok (.iload_n 3, 1) := by decide +kernel
theorem dL_law_1332 : decode cL_law 1332 = .ok (.iconst 1, 1) := by decide +kernel
theorem dL_law_1333 : decode cL_law 1333 = .ok (.iadd, 1) := by decide +kernel
theorem dL_law_1334 : decode cL_law 1334 = .ok (.iaload, 1) := by decide +kernel
theorem dL_law_1335 : decode cL_law 1335 = .ok (.aload_n 0, 1) := by decide +kernel
theorem dL_law_1336 : decode cL_law 1336 = .ok (.iload_n 3, 1) := by decide +kernel
theorem dL_law_1337 : decode cL_law 1337 = .ok (.iconst 2, 1) := by decide +kernel
theorem dL_law_1338 : decode cL_law 1338 = .ok (.iadd, 1) := by decide +kernel
theorem dL_law_1339 : decode cL_law 1339 = .ok (.iaload, 1) := by decide +kernel
theorem dL_law_1340 : decode cL_law 1340 = .ok (.aload_n 0, 1) := by decide +kernel
theorem dL_law_1341 : decode cL_law 1341 = .ok (.iload_n 3, 1) := by decide +kernel
theorem dL_law_1342 : decode cL_law 1342 = .ok (.iconst 3, 1) := by decide +kernel
theorem dL_law_1343 : decode cL_law 1343 = .ok (.iadd, 1) := by decide +kernel
theorem dL_law_1344 : decode cL_law 1344 = .ok (.iaload, 1) := by decide +kernel
theorem dL_law_1345 : decode cL_law 1345 = .ok (.invokevirtual 176, 3) := by decide +kernel
theorem dL_law_1348 : decode cL_law 1348 = .ok (.aload_n 2, 1) := by decide +kernel
theorem dL_law_1349 : decode cL_law 1349 = .ok (.aload_n 0, 1) := by decide +kernel
theorem dL_law_1350 : decode cL_law 1350 = .ok (.iload_n 3, 1) := by decide +kernel
theorem dL_law_1351 : decode cL_law 1351 = .ok (.iconst 1, 1) := by decide +kernel
theorem dL_law_1352 : decode cL_law 1352 = .ok (.iadd, 1) := by decide +kernel
theorem dL_law_1353 : decode cL_law 1353 = .ok (.iaload, 1) := by decide +kernel
theorem dL_law_1354 : decode cL_law 1354 = .ok (.aload_n 0, 1) := by decide +kernel
theorem dL_law_1355 : decode cL_law 1355 = .ok (.iload_n 3, 1) := by decide +kernel
theorem dL_law_1356 : decode cL_law 1356 = .ok (.iconst 2, 1) := by decide +kernel
theorem dL_law_1357 : decode cL_law 1357 = .ok (.iadd, 1) := by decide +kernel
theorem dL_law_1358 : decode cL_law 1358 = .ok (.iaload, 1) := by decide +kernel
theorem dL_law_1359 : decode cL_law 1359 = .ok (.aload_n 0, 1) := by decide +kernel
theorem dL_law_1360 : decode cL_law 1360 = .ok (.iload_n 3, 1) := by decide +kernel
theorem dL_law_1361 : decode cL_law 1361 = .ok (.iconst 3, 1) := by decide +kernel
theorem dL_law_1362 : decode cL_law 1362 = .ok (.iadd, 1) := by decide +kernel
theorem dL_law_1363 : decode cL_law 1363 = .ok (.iaload, 1) := by decide +kernel
theorem dL_law_1364 : decode cL_law 1364 = .ok (.invokevirtual 179, 3) := by decide +kernel
theorem dL_law_1367 : decode cL_law 1367 = .ok (.if_icmp .eq 175, 3) := by decide +kernel
theorem dL_law_1370 : decode cL_law 1370 = .ok (.iconst 0, 1) := by decide +kernel
theorem dL_law_1371 : decode cL_law 1371 = .ok (.ireturn, 1) := by decide +kernel
theorem dL_law_1372 : decode cL_law 1372 = .ok (.aload_n 1, 1) := by decide +kernel
theorem dL_law_1373 : decode cL_law 1373 = .ok (.aload_n 0, 1) := by decide +kernel
theorem dL_law_1374 : decode cL_law 1374 = .ok (.iload_n 3, 1) := by decide +kernel
theorem dL_law_1375 : decode cL_law 1375 = .ok (.iconst 1, 1) := by decide +kernel
theorem dL_law_1376 : decode cL_law 1376 = .ok (.iadd, 1) := by decide +kernel
theorem dL_law_1377 : decode cL_law 1377 = .ok (.iaload, 1) := by decide +kernel
theorem dL_law_1378 : decode cL_law 1378 = .ok (.aload_n 0, 1) := by decide +kernel
theorem dL_law_1379 : decode cL_law 1379 = .ok (.iload_n 3, 1) := by decide +kernel
theorem dL_law_1380 : decode cL_law 1380 = .ok (.iconst 2, 1) := by decide +kernel
theorem dL_law_1381 : decode cL_law 1381 = .ok (.iadd, 1) := by decide +kernel
theorem dL_law_1382 : decode cL_law 1382 = .ok (.iaload, 1) := by decide +kernel
theorem dL_law_1383 : decode cL_law 1383 = .ok (.aload_n 0, 1) := by decide +kernel
theorem dL_law_1384 : decode cL_law 1384 = .ok (.iload_n 3, 1) := by decide +kernel
theorem dL_law_1385 : decode cL_law 1385 = .ok (.iconst 3, 1) := by decide +kernel
theorem dL_law_1386 : decode cL_law 1386 = .ok (.iadd, 1) := by decide +kernel
theorem dL_law_1387 : decode cL_law 1387 = .ok (.iaload, 1) := by decide +kernel
theorem dL_law_1388 : decode cL_law 1388 = .ok (.i2l, 1) := by decide +kernel
theorem dL_law_1389 : decode cL_law 1389 = .ok (.bipush 32, 2) := by decide +kernel
theorem dL_law_1391 : decode cL_law 1391 = .ok (.lshl, 1) := by decide +kernel
theorem dL_law_1392 : decode cL_law 1392 = .ok (.aload_n 0, 1) := by decide +kernel
theorem dL_law_1393 : decode cL_law 1393 = .ok (.iload_n 3, 1) := by decide +kernel
theorem dL_law_1394 : decode cL_law 1394 = .ok (.iconst 4, 1) := by decide +kernel
theorem dL_law_1395 : decode cL_law 1395 = .ok (.iadd, 1) := by decide +kernel
theorem dL_law_1396 : decode cL_law 1396 = .ok (.iaload, 1) := by decide +kernel
theorem dL_law_1397 : decode cL_law 1397 = .ok (.i2l, 1) := by decide +kernel
theorem dL_law_1398 : decode cL_law 1398 = .ok (.ldc2_w 180, 3) := by decide +kernel
theorem dL_law_1401 : decode cL_law 1401 = .ok (.land, 1) := by decide +kernel
theorem dL_law_1402 : decode cL_law 1402 = .ok (.lor, 1) := by decide +kernel
theorem dL_law_1403 : decode cL_law 1403 = .ok (.invokevirtual 182, 3) := by decide +kernel
theorem dL_law_1406 : decode cL_law 1406 = .ok (.aload_n 2, 1) := by decide +kernel
theorem dL_law_1407 : decode cL_law 1407 = .ok (.aload_n 0, 1) := by decide +kernel
theorem dL_law_1408 : decode cL_law 1408 = .ok (.iload_n 3, 1) := by decide +kernel
theorem dL_law_1409 : decode cL_law 1409 = .ok (.iconst 1, 1) := by decide +kernel
theorem dL_law_1410 : decode cL_law 1410 = .ok (.iadd, 1) := by decide +kernel
theorem dL_law_1411 : decode cL_law 1411 = .ok (.iaload, 1) := by decide +kernel
theorem dL_law_1412 : decode cL_law 1412 = .ok (.aload_n 0, 1) := by decide +kernel
theorem dL_law_1413 : decode cL_law 1413 = .ok (.iload_n 3, 1) := by decide +kernel
theorem dL_law_1414 : decode cL_law 1414 = .ok (.iconst 2, 1) := by decide +kernel
theorem dL_law_1415 : decode cL_law 1415 = .ok (.iadd, 1) := by decide +kernel
theorem dL_law_1416 : decode cL_law 1416 = .ok (.iaload, 1) := by decide +kernel
theorem dL_law_1417 : decode cL_law 1417 = .ok (.aload_n 0, 1) := by decide +kernel
theorem dL_law_1418 : decode cL_law 1418 = .ok (.iload_n 3, 1) := by decide +kernel
theorem dL_law_1419 : decode cL_law 1419 = .ok (.iconst 3, 1) := by decide +kernel
theorem dL_law_1420 : decode cL_law 1420 = .ok (.iadd, 1) := by decide +kernel
theorem dL_law_1421 : decode cL_law 1421 = .ok (.iaload, 1) := by decide +kernel
theorem dL_law_1422 : decode cL_law 1422 = .ok (.i2l, 1) := by decide +kernel
theorem dL_law_1423 : decode cL_law 1423 = .ok (.bipush 32, 2) := by decide +kernel
theorem dL_law_1425 : decode cL_law 1425 = .ok (.lshl, 1) := by decide +kernel
theorem dL_law_1426 : decode cL_law 1426 = .ok (.aload_n 0, 1) := by decide +kernel
theorem dL_law_1427 : decode cL_law 1427 = .ok (.iload_n 3, 1) := by decide +kernel
theorem dL_law_1428 : decode cL_law 1428 = .ok (.iconst 4, 1) := by decide +kernel
theorem dL_law_1429 : decode cL_law 1429 = .ok (.iadd, 1) := by decide +kernel
theorem dL_law_1430 : decode cL_law 1430 = .ok (.iaload, 1) := by decide +kernel
theorem dL_law_1431 : decode cL_law 1431 = .ok (.i2l, 1) := by decide +kernel
theorem dL_law_1432 : decode cL_law 1432 = .ok (.ldc2_w 180, 3) := by decide +kernel
theorem dL_law_1435 : decode cL_law 1435 = .ok (.land, 1) := by decide +kernel
theorem dL_law_1436 : decode cL_law 1436 = .ok (.lor, 1) := by decide +kernel
theorem dL_law_1437 : decode cL_law 1437 = .ok (.invokevirtual 186, 3) := by decide +kernel
theorem dL_law_1440 : decode cL_law 1440 = .ok (.if_icmp .eq 102, 3) := by decide +kernel
theorem dL_law_1443 : decode cL_law 1443 = .ok (.iconst 0, 1) := by decide +kernel
theorem dL_law_1444 : decode cL_law 1444 = .ok (.ireturn, 1) := by decide +kernel
theorem dL_law_1445 : decode cL_law 1445 = .ok (.aload_n 1, 1) := by decide +kernel
theorem dL_law_1446 : decode cL_law 1446 = .ok (.aload_n 0, 1) := by decide +kernel
theorem dL_law_1447 : decode cL_law 1447 = .ok (.iload_n 3, 1) := by decide +kernel
theorem dL_law_1448 : decode cL_law 1448 = .ok (.iconst 1, 1) := by decide +kernel
theorem dL_law_1449 : decode cL_law 1449 = .ok (.iadd, 1) := by decide +kernel
theorem dL_law_1450 : decode cL_law 1450 = .ok (.iaload, 1) := by decide +kernel
theorem dL_law_1451 : decode cL_law 1451 = .ok (.aload_n 0, 1) := by decide +kernel
theorem dL_law_1452 : decode cL_law 1452 = .ok (.iload_n 3, 1) := by decide +kernel
theorem dL_law_1453 : decode cL_law 1453 = .ok (.iconst 2, 1) := by decide +kernel
theorem dL_law_1454 : decode cL_law 1454 = .ok (.iadd, 1) := by decide +kernel
theorem dL_law_1455 : decode cL_law 1455 = .ok (.iaload, 1) := by decide +kernel
theorem dL_law_1456 : decode cL_law 1456 = .ok (.invokevirtual 187, 3) := by decide +kernel
theorem dL_law_1459 : decode cL_law 1459 = .ok (.aload_n 2, 1) := by decide +kernel
theorem dL_law_1460 : decode cL_law 1460 = .ok (.aload_n 0, 1) := by decide +kernel
theorem dL_law_1461 : decode cL_law 1461 = .ok (.iload_n 3, 1) := by decide +kernel
theorem dL_law_1462 : decode cL_law 1462 = .ok (.iconst 1, 1) := by decide +kernel
theorem dL_law_1463 : decode cL_law 1463 = .ok (.iadd, 1) := by decide +kernel
theorem dL_law_1464 : decode cL_law 1464 = .ok (.iaload, 1) := by decide +kernel
theorem dL_law_1465 : decode cL_law 1465 = .ok (.aload_n 0, 1) := by decide +kernel
theorem dL_law_1466 : decode cL_law 1466 = .ok (.iload_n 3, 1) := by decide +kernel
theorem dL_law_1467 : decode cL_law 1467 = .ok (.iconst 2, 1) := by decide +kernel
theorem dL_law_1468 : decode cL_law 1468 = .ok (.iadd, 1) := by decide +kernel
theorem dL_law_1469 : decode cL_law 1469 = .ok (.iaload, 1) := by decide +kernel
theorem dL_law_1470 : decode cL_law 1470 = .ok (.invokevirtual 190, 3) := by decide +kernel
theorem dL_law_1473 : decode cL_law 1473 = .ok (.lcmp, 1) := by decide +kernel
theorem dL_law_1474 : decode cL_law 1474 = .ok (.ifCond .eq 68, 3) := by decide +kernel
theorem dL_law_1477 : decode cL_law 1477 = .ok (.iconst 0, 1) := by decide +kernel
theorem dL_law_1478 : decode cL_law 1478 = .ok (.ireturn, 1) := by decide +kernel
theorem dL_law_1479 : decode cL_law 1479 = .ok (.aload_n 1, 1) := by decide +kernel
theorem dL_law_1480 : decode cL_law 1480 = .ok (.aload_n 0, 1) := by decide +kernel
theorem dL_law_1481 : decode cL_law 1481 = .ok (.iload_n 3, 1) := by decide +kernel
theorem dL_law_1482 : decode cL_law 1482 = .ok (.iconst 1, 1) := by decide +kernel
theorem dL_law_1483 : decode cL_law 1483 = .ok (.iadd, 1) := by decide +kernel
theorem dL_law_1484 : decode cL_law 1484 = .ok (.iaload, 1) := by decide +kernel
theorem dL_law_1485 : decode cL_law 1485 = .ok (.aload_n 0, 1) := by decide +kernel
theorem dL_law_1486 : decode cL_law 1486 = .ok (.iload_n 3, 1) := by decide +kernel
theorem dL_law_1487 : decode cL_law 1487 = .ok (.iconst 2, 1) := by decide +kernel
theorem dL_law_1488 : decode cL_law 1488 = .ok (.iadd, 1) := by decide +kernel
theorem dL_law_1489 : decode cL_law 1489 = .ok (.iaload, 1) := by decide +kernel
theorem dL_law_1490 : decode cL_law 1490 = .ok (.aload_n 0, 1) := by decide +kernel
theorem dL_law_1491 : decode cL_law 1491 = .ok (.iload_n 3, 1) := by decide +kernel
theorem dL_law_1492 : decode cL_law 1492 = .ok (.iconst 3, 1) := by decide +kernel
theorem dL_law_1493 : decode cL_law 1493 = .ok (.iadd, 1) := by decide +kernel
theorem dL_law_1494 : decode cL_law 1494 = .ok (.iaload, 1) := by decide +kernel
theorem dL_law_1495 : decode cL_law 1495 = .ok (.aload_n 0, 1) := by decide +kernel
theorem dL_law_1496 : decode cL_law 1496 = .ok (.iload_n 3, 1) := by decide +kernel
theorem dL_law_1497 : decode cL_law 1497 = .ok (.iconst 4, 1) := by decide +kernel
theorem dL_law_1498 : decode cL_law 1498 = .ok (.iadd, 1) := by decide +kernel
theorem dL_law_1499 : decode cL_law 1499 = .ok (.iaload, 1) := by decide +kernel
theorem dL_law_1500 : decode cL_law 1500 = .ok (.aload_n 0, 1) := by decide +kernel
theorem dL_law_1501 : decode cL_law 1501 = .ok (.iload_n 3, 1) := by decide +kernel
theorem dL_law_1502 : decode cL_law 1502 = .ok (.iconst 5, 1) := by decide +kernel
theorem dL_law_1503 : decode cL_law 1503 = .ok (.iadd, 1) := by decide +kernel
theorem dL_law_1504 : decode cL_law 1504 = .ok (.iaload, 1) := by decide +kernel
theorem dL_law_1505 : decode cL_law 1505 = .ok (.invokevirtual 191, 3) := by decide +kernel
theorem dL_law_1508 : decode cL_law 1508 = .ok (.aload_n 2, 1) := by decide +kernel
theorem dL_law_1509 : decode cL_law 1509 = .ok (.aload_n 0, 1) := by decide +kernel
theorem dL_law_1510 : decode cL_law 1510 = .ok (.iload_n 3, 1) := by decide +kernel
theorem dL_law_1511 : decode cL_law 1511 = .ok (.iconst 1, 1) := by decide +kernel
theorem dL_law_1512 : decode cL_law 1512 = .ok (.iadd, 1) := by decide +kernel
theorem dL_law_1513 : decode cL_law 1513 = .ok (.iaload, 1) := by decide +kernel
theorem dL_law_1514 : decode cL_law 1514 = .ok (.aload_n 0, 1) := by decide +kernel
theorem dL_law_1515 : decode cL_law 1515 = .ok (.iload_n 3, 1) := by decide +kernel
theorem dL_law_1516 : decode cL_law 1516 = .ok (.iconst 2, 1) := by decide +kernel
theorem dL_law_1517 : decode cL_law 1517 = .ok (.iadd, 1) := by decide +kernel
theorem dL_law_1518 : decode cL_law 1518 = .ok (.iaload, 1) := by decide +kernel
theorem dL_law_1519 : decode cL_law 1519 = .ok (.aload_n 0, 1) := by decide +kernel
theorem dL_law_1520 : decode cL_law 1520 = .ok (.iload_n 3, 1) := by decide +kernel
theorem dL_law_1521 : decode cL_law 1521 = .ok (.iconst 3, 1) := by decide +kernel
theorem dL_law_1522 : decode cL_law 1522 = .ok (.iadd, 1) := by decide +kernel
theorem dL_law_1523 : decode cL_law 1523 = .ok (.iaload, 1) := by decide +kernel
theorem dL_law_1524 : decode cL_law 1524 = .ok (.aload_n 0, 1) := by decide +kernel
theorem dL_law_1525 : decode cL_law 1525 = .ok (.iload_n 3, 1) := by decide +kernel
theorem dL_law_1526 : decode cL_law 1526 = .ok (.iconst 4, 1) := by decide +kernel
theorem dL_law_1527 : decode cL_law 1527 = .ok (.iadd, 1) := by decide +kernel
theorem dL_law_1528 : decode cL_law 1528 = .ok (.iaload, 1) := by decide +kernel
theorem dL_law_1529 : decode cL_law 1529 = .ok (.aload_n 0, 1) := by decide +kernel
theorem dL_law_1530 : decode cL_law 1530 = .ok (.iload_n 3, 1) := by decide +kernel
theorem dL_law_1531 : decode cL_law 1531 = .ok (.iconst 5, 1) := by decide +kernel
theorem dL_law_1532 : decode cL_law 1532 = .ok (.iadd, 1) := by decide +kernel
theorem dL_law_1533 : decode cL_law 1533 = .ok (.iaload, 1) := by decide +kernel
theorem dL_law_1534 : decode cL_law 1534 = .ok (.invokevirtual 195, 3) := by decide +kernel
theorem dL_law_1537 : decode cL_law 1537 = .ok (.if_icmp .eq 5, 3) := by decide +kernel
theorem dL_law_1540 : decode cL_law 1540 = .ok (.iconst 0, 1) := by decide +kernel
theorem dL_law_1541 : decode cL_law 1541 = .ok (.ireturn, 1) := by decide +kernel
theorem dL_law_1542 : decode cL_law 1542 = .ok (.iinc 3 6, 3) := by decide +kernel
theorem dL_law_1545 : decode cL_law 1545 = .ok (.goto (-1527), 3) := by decide +kernel
theorem dL_law_1548 : decode cL_law 1548 = .ok (.iconst 1, 1) := by decide +kernel
theorem dL_law_1549 : decode cL_law 1549 = .ok (.ireturn, 1) := by decide +kernel
abbrev vwCl : List vw_C := [(RX0, TX0, 4), (RX1, TX1, 4), (RX2, TX2, 3), (RX3, TX3, 10), (RX4, TX4, 3), (RX5, TX5, 9), (RX6, TX6, 3), (RX7, TX7, 11), (RX8, TX8, 71)]
theorem inX0 : ∀ w ∈ wsX00, w ∈ lw_tbl := fun w h => List.mem_append_right _ ((show wsX00 = [41, 43, 45, 47].filterMap (fun i => tables_1[i]?) by decide +kernel) ▸ h |> fun h => by obtain ⟨i, -, hi⟩ := List.mem_filterMap.mp h; exact List.mem_of_getElem? hi)
theorem inX1 : ∀ w ∈ wsX10, w ∈ lw_tbl := fun w h => List.mem_append_right _ ((show wsX10 = [195, 197, 199, 201].filterMap (fun i => tables_1[i]?) by decide +kernel) ▸ h |> fun h => by obtain ⟨i, -, hi⟩ := List.mem_filterMap.mp h; exact List.mem_of_getElem? hi)
theorem inX2 : ∀ w ∈ wsX20, w ∈ lw_tbl := fun w h => List.mem_append_right _ ((show wsX20 = [71, 73, 75].filterMap (fun i => tables_1[i]?) by decide +kernel) ▸ h |> fun h => by obtain ⟨i, -, hi⟩ := List.mem_filterMap.mp h; exact List.mem_of_getElem? hi)
theorem inX3 : ∀ w ∈ wsX30, w ∈ lw_tbl := fun w h => List.mem_append_right _ ((show wsX30 = [122, 124, 126, 128, 130, 132, 134, 136, 138, 140].filterMap (fun i => tables_1[i]?) by decide +kernel) ▸ h |> fun h => by obtain ⟨i, -, hi⟩ := List.mem_filterMap.mp h; exact List.mem_of_getElem? hi)
theorem inX4 : ∀ w ∈ wsX40, w ∈ lw_tbl := fun w h => List.mem_append_right _ ((show wsX40 = [90, 92, 94].filterMap (fun i => tables_1[i]?) by decide +kernel) ▸ h |> fun h => by obtain ⟨i, -, hi⟩ := List.mem_filterMap.mp h; exact List.mem_of_getElem? hi)
theorem inX5 : ∀ w ∈ wsX50, w ∈ lw_tbl := fun w h => List.mem_append_right _ ((show wsX50 = [161, 163, 165, 167, 169, 171, 173, 175, 177].filterMap (fun i => tables_1[i]?) by decide +kernel) ▸ h |> fun h => by obtain ⟨i, -, hi⟩ := List.mem_filterMap.mp h; exact List.mem_of_getElem? hi)
theorem inX6 : ∀ w ∈ wsX60, w ∈ lw_tbl := fun w h => List.mem_append_right _ ((show wsX60 = [219, 221, 223].filterMap (fun i => tables_1[i]?) by decide +kernel) ▸ h |> fun h => by obtain ⟨i, -, hi⟩ := List.mem_filterMap.mp h; exact List.mem_of_getElem? hi)
theorem inX7 : ∀ w ∈ wsX70, w ∈ lw_tbl := fun w h => List.mem_append_right _ ((show wsX70 = [238, 240, 242, 244, 246, 248, 250, 252, 254, 256, 258].filterMap (fun i => tables_1[i]?) by decide +kernel) ▸ h |> fun h => by obtain ⟨i, -, hi⟩ := List.mem_filterMap.mp h; exact List.mem_of_getElem? hi)
theorem inX8 : ∀ w ∈ wsX80, w ∈ lw_tbl := fun w h => List.mem_append_right _ ((show wsX80 = [843, 845, 847, 849, 851, 853, 855, 857, 859, 861, 863, 865, 867, 869, 871, 873, 875, 877, 879, 881, 883, 885, 887, 889, 891, 893, 895, 897, 899, 901, 903, 905, 907, 909, 911, 913, 915, 917, 919, 921, 923, 925, 927, 929, 931, 933, 935, 937, 939, 941, 943, 945, 947, 949, 951, 953, 955, 957, 959, 961, 963, 965, 967, 969, 971, 973, 975, 977, 979, 981, 983].filterMap (fun i => tables_1[i]?) by decide +kernel) ▸ h |> fun h => by obtain ⟨i, -, hi⟩ := List.mem_filterMap.mp h; exact List.mem_of_getElem? hi)
