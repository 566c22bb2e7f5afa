/-! ===== BEGIN printed: names, fields, word lists, decode rows ===== -/
def RX0 : String := "OneTime$DelaySearch"
def TX0 : u_T := fun k => match k with
  | 0 => ("OneTime$DelaySearch", "apart", "[[I", true)
  | 1 => ("OneTime$DelaySearch", "open", "[[I", true)
  | 2 => ("OneTime$DelaySearch", "steps", "[I", true)
  | 3 => ("OneTime$DelaySearch", "best", "[I", true)
  | 4 => ("OneTime$DelaySearch", "trains", "I", false)
  | _ => ("OneTime$DelaySearch", "bestCost", "I", false)
def tyX0 : Nat → FieldType := fun k => match k with
  | 0 => .array (.array .int)
  | 1 => .array (.array .int)
  | 2 => .array .int
  | 3 => .array .int
  | 4 => .int
  | _ => .int
abbrev wsX00 : List Cond := u_ws RX0 TX0 6
theorem nmX0 : ∀ a, a < 6 → ∀ b, b < 6 → a ≠ b → (TX0 a).2.1 ≠ (TX0 b).2.1 := by decide +kernel
theorem tyX0_ok : ∀ k, k < 6 → parseFieldDescriptor (TX0 k).2.2.1 = some (tyX0 k) := by decide +kernel
abbrev cX0_init : ByteArray := prog_2_method_1_code
def yX0_init : MethodName := ⟨RX0, "<init>", "()V"⟩
abbrev cX0_settleBest : ByteArray := prog_2_method_2_code
def yX0_settleBest : MethodName := ⟨RX0, "settleBest", "(LOneTime$Line;)I"⟩
abbrev cX0_stepsApart : ByteArray := prog_2_method_3_code
def yX0_stepsApart : MethodName := ⟨RX0, "stepsApart", "(LOneTime$Line;II)I"⟩
abbrev cX0_leastStep : ByteArray := prog_2_method_4_code
def yX0_leastStep : MethodName := ⟨RX0, "leastStep", "(I)I"⟩
abbrev cX0_costOf : ByteArray := prog_2_method_5_code
def yX0_costOf : MethodName := ⟨RX0, "costOf", "(I)I"⟩
abbrev cX0_place : ByteArray := prog_2_method_6_code
def yX0_place : MethodName := ⟨RX0, "place", "(II)V"⟩
abbrev cX0_costOfOthers : ByteArray := prog_2_method_7_code
def yX0_costOfOthers : MethodName := ⟨RX0, "costOfOthers", "(II)I"⟩
abbrev cX0_keep : ByteArray := prog_2_method_8_code
def yX0_keep : MethodName := ⟨RX0, "keep", "(I)V"⟩
def RX1 : String := "OneTime$LawReader"
def TX1 : u_T := fun k => match k with
  | 0 => ("OneTime$LawReader", "times", "[I", true)
  | 1 => ("OneTime$LawReader", "mores", "[I", true)
  | 2 => ("OneTime$LawReader", "state", "I", false)
  | 3 => ("OneTime$LawReader", "matter", "I", false)
  | 4 => ("OneTime$LawReader", "sense", "I", false)
  | _ => ("OneTime$LawReader", "digits", "I", false)
def tyX1 : Nat → FieldType := fun k => match k with
  | 0 => .array .int
  | 1 => .array .int
  | 2 => .int
  | 3 => .int
  | 4 => .int
  | _ => .int
abbrev wsX10 : List Cond := u_ws RX1 TX1 6
theorem nmX1 : ∀ a, a < 6 → ∀ b, b < 6 → a ≠ b → (TX1 a).2.1 ≠ (TX1 b).2.1 := by decide +kernel
theorem tyX1_ok : ∀ k, k < 6 → parseFieldDescriptor (TX1 k).2.2.1 = some (tyX1 k) := by decide +kernel
abbrev cX1_init : ByteArray := prog_3_method_1_code
def yX1_init : MethodName := ⟨RX1, "<init>", "()V"⟩
abbrev cX1_take : ByteArray := prog_3_method_2_code
def yX1_take : MethodName := ⟨RX1, "take", "(LOneTime$Tape;)I"⟩
abbrev cX1_takeSign : ByteArray := prog_3_method_3_code
def yX1_takeSign : MethodName := ⟨RX1, "takeSign", "(I)Z"⟩
abbrev cX1_takeMatter : ByteArray := prog_3_method_4_code
def yX1_takeMatter : MethodName := ⟨RX1, "takeMatter", "(I)Z"⟩
abbrev cX1_takeTime : ByteArray := prog_3_method_5_code
def yX1_takeTime : MethodName := ⟨RX1, "takeTime", "(I)Z"⟩
abbrev cX1_takeSense : ByteArray := prog_3_method_6_code
def yX1_takeSense : MethodName := ⟨RX1, "takeSense", "(I)Z"⟩
abbrev cX1_takeDigit : ByteArray := prog_3_method_7_code
def yX1_takeDigit : MethodName := ⟨RX1, "takeDigit", "(I)Z"⟩
abbrev cX1_takeMark : ByteArray := prog_3_method_8_code
def yX1_takeMark : MethodName := ⟨RX1, "takeMark", "(III)Z"⟩
def RX2 : String := "OneTime$Laws"
def TX2 : u_T := fun k => match k with
  | 0 => ("OneTime$Laws", "since", "LOneTime$Since;", true)
  | 1 => ("OneTime$Laws", "reader", "LOneTime$LawReader;", true)
  | 2 => ("OneTime$Laws", "times", "[I", true)
  | _ => ("OneTime$Laws", "mores", "[I", true)
def tyX2 : Nat → FieldType := fun k => match k with
  | 0 => .object "OneTime$Since"
  | 1 => .object "OneTime$LawReader"
  | 2 => .array .int
  | _ => .array .int
abbrev wsX20 : List Cond := u_ws RX2 TX2 4
theorem nmX2 : ∀ a, a < 4 → ∀ b, b < 4 → a ≠ b → (TX2 a).2.1 ≠ (TX2 b).2.1 := by decide +kernel
theorem tyX2_ok : ∀ k, k < 4 → parseFieldDescriptor (TX2 k).2.2.1 = some (tyX2 k) := by decide +kernel
abbrev cX2_init : ByteArray := prog_4_method_1_code
def yX2_init : MethodName := ⟨RX2, "<init>", "()V"⟩
abbrev cX2_isFull : ByteArray := prog_4_method_2_code
def yX2_isFull : MethodName := ⟨RX2, "isFull", "()Z"⟩
abbrev cX2_tell : ByteArray := prog_4_method_3_code
def yX2_tell : MethodName := ⟨RX2, "tell", "(IILOneTime$Tape;)I"⟩
abbrev cX2_has : ByteArray := prog_4_method_4_code
def yX2_has : MethodName := ⟨RX2, "has", "(II)Z"⟩
abbrev cX2_timeOf : ByteArray := prog_4_method_5_code
def yX2_timeOf : MethodName := ⟨RX2, "timeOf", "(II)I"⟩
abbrev cX2_moreOf : ByteArray := prog_4_method_6_code
def yX2_moreOf : MethodName := ⟨RX2, "moreOf", "(II)I"⟩
def RX3 : String := "OneTime$Line"
def TX3 : u_T := fun k => match k with
  | 0 => ("OneTime$Line", "stations", "I", false)
  | 1 => ("OneTime$Line", "ofTowns", "[I", true)
  | 2 => ("OneTime$Line", "ways", "[I", true)
  | 3 => ("OneTime$Line", "trains", "I", false)
  | 4 => ("OneTime$Line", "ups", "[Z", true)
  | 5 => ("OneTime$Line", "starts", "[I", true)
  | 6 => ("OneTime$Line", "stays", "[I", true)
  | _ => ("OneTime$Line", "delays", "[I", true)
def tyX3 : Nat → FieldType := fun k => match k with
  | 0 => .int
  | 1 => .array .int
  | 2 => .array .int
  | 3 => .int
  | 4 => .array .boolean
  | 5 => .array .int
  | 6 => .array .int
  | _ => .array .int
abbrev wsX30 : List Cond := u_ws RX3 TX3 8
theorem nmX3 : ∀ a, a < 8 → ∀ b, b < 8 → a ≠ b → (TX3 a).2.1 ≠ (TX3 b).2.1 := by decide +kernel
theorem tyX3_ok : ∀ k, k < 8 → parseFieldDescriptor (TX3 k).2.2.1 = some (tyX3 k) := by decide +kernel
abbrev cX3_init : ByteArray := prog_5_method_1_code
def yX3_init : MethodName := ⟨RX3, "<init>", "()V"⟩
abbrev cX3_hasStation : ByteArray := prog_5_method_2_code
def yX3_hasStation : MethodName := ⟨RX3, "hasStation", "(I)Z"⟩
abbrev cX3_hasTrain : ByteArray := prog_5_method_3_code
def yX3_hasTrain : MethodName := ⟨RX3, "hasTrain", "(I)Z"⟩
abbrev cX3_build : ByteArray := prog_5_method_4_code
def yX3_build : MethodName := ⟨RX3, "build", "(II)I"⟩
abbrev cX3_takesTrains : ByteArray := prog_5_method_5_code
def yX3_takesTrains : MethodName := ⟨RX3, "takesTrains", "()Z"⟩
abbrev cX3_firstTown : ByteArray := prog_5_method_6_code
def yX3_firstTown : MethodName := ⟨RX3, "firstTown", "(Z)I"⟩
abbrev cX3_addTrain : ByteArray := prog_5_method_7_code
def yX3_addTrain : MethodName := ⟨RX3, "addTrain", "(ZII)I"⟩
abbrev cX3_clear : ByteArray := prog_5_method_8_code
def yX3_clear : MethodName := ⟨RX3, "clear", "()I"⟩
abbrev cX3_plannedAt : ByteArray := prog_5_method_9_code
def yX3_plannedAt : MethodName := ⟨RX3, "plannedAt", "(II)I"⟩
abbrev cX3_plannedOnRun : ByteArray := prog_5_method_10_code
def yX3_plannedOnRun : MethodName := ⟨RX3, "plannedOnRun", "(II)I"⟩
abbrev cX3_lengthOf : ByteArray := prog_5_method_11_code
def yX3_lengthOf : MethodName := ⟨RX3, "lengthOf", "(I)I"⟩
abbrev cX3_firstRunMeeting : ByteArray := prog_5_method_12_code
def yX3_firstRunMeeting : MethodName := ⟨RX3, "firstRunMeeting", "(II)I"⟩
abbrev cX3_firstRunMeetingWith : ByteArray := prog_5_method_13_code
def yX3_firstRunMeetingWith : MethodName := ⟨RX3, "firstRunMeetingWith", "(III)I"⟩
def RX4 : String := "OneTime$RoundSearch"
def TX4 : u_T := fun k => match k with
  | 0 => ("OneTime$RoundSearch", "order", "[I", true)
  | 1 => ("OneTime$RoundSearch", "best", "[I", true)
  | 2 => ("OneTime$RoundSearch", "bestWorst", "I", false)
  | _ => ("OneTime$RoundSearch", "bestEnd", "I", false)
def tyX4 : Nat → FieldType := fun k => match k with
  | 0 => .array .int
  | 1 => .array .int
  | 2 => .int
  | _ => .int
abbrev wsX40 : List Cond := u_ws RX4 TX4 4
theorem nmX4 : ∀ a, a < 4 → ∀ b, b < 4 → a ≠ b → (TX4 a).2.1 ≠ (TX4 b).2.1 := by decide +kernel
theorem tyX4_ok : ∀ k, k < 4 → parseFieldDescriptor (TX4 k).2.2.1 = some (tyX4 k) := by decide +kernel
abbrev cX4_init : ByteArray := prog_6_method_1_code
def yX4_init : MethodName := ⟨RX4, "<init>", "()V"⟩
abbrev cX4_seek : ByteArray := prog_6_method_2_code
def yX4_seek : MethodName := ⟨RX4, "seek", "(LOneTime$Towers;II)V"⟩
abbrev cX4_goOn : ByteArray := prog_6_method_3_code
def yX4_goOn : MethodName := ⟨RX4, "goOn", "(LOneTime$Towers;IIIII)V"⟩
abbrev cX4_minutesBetween : ByteArray := prog_6_method_4_code
def yX4_minutesBetween : MethodName := ⟨RX4, "minutesBetween", "(II)I"⟩
abbrev cX4_sizeOfError : ByteArray := prog_6_method_5_code
def yX4_sizeOfError : MethodName := ⟨RX4, "sizeOfError", "(LOneTime$Towers;II)I"⟩
abbrev cX4_canBeBetter : ByteArray := prog_6_method_6_code
def yX4_canBeBetter : MethodName := ⟨RX4, "canBeBetter", "(LOneTime$Towers;IIII)Z"⟩
abbrev cX4_keep : ByteArray := prog_6_method_7_code
def yX4_keep : MethodName := ⟨RX4, "keep", "(III)V"⟩
def RX5 : String := "OneTime$Row"
def TX5 : u_T := fun k => match k with
  | 0 => ("OneTime$Row", "numbers", "[I", true)
  | _ => ("OneTime$Row", "size", "I", false)
def tyX5 : Nat → FieldType := fun k => match k with
  | 0 => .array .int
  | _ => .int
abbrev wsX50 : List Cond := u_ws RX5 TX5 2
theorem nmX5 : ∀ a, a < 2 → ∀ b, b < 2 → a ≠ b → (TX5 a).2.1 ≠ (TX5 b).2.1 := by decide +kernel
theorem tyX5_ok : ∀ k, k < 2 → parseFieldDescriptor (TX5 k).2.2.1 = some (tyX5 k) := by decide +kernel
abbrev cX5_init : ByteArray := prog_7_method_1_code
def yX5_init : MethodName := ⟨RX5, "<init>", "()V"⟩
abbrev cX5_clear : ByteArray := prog_7_method_2_code
def yX5_clear : MethodName := ⟨RX5, "clear", "()V"⟩
abbrev cX5_add : ByteArray := prog_7_method_3_code
def yX5_add : MethodName := ⟨RX5, "add", "(I)V"⟩
abbrev cX5_addMinute : ByteArray := prog_7_method_4_code
def yX5_addMinute : MethodName := ⟨RX5, "addMinute", "(I)V"⟩
def RX6 : String := "OneTime$Since"
def TX6 : u_T := fun k => match k with
  | 0 => ("OneTime$Since", "ofTowns", "[I", true)
  | 1 => ("OneTime$Since", "fromDays", "[I", true)
  | _ => ("OneTime$Since", "size", "I", false)
def tyX6 : Nat → FieldType := fun k => match k with
  | 0 => .array .int
  | 1 => .array .int
  | _ => .int
abbrev wsX60 : List Cond := u_ws RX6 TX6 3
theorem nmX6 : ∀ a, a < 3 → ∀ b, b < 3 → a ≠ b → (TX6 a).2.1 ≠ (TX6 b).2.1 := by decide +kernel
theorem tyX6_ok : ∀ k, k < 3 → parseFieldDescriptor (TX6 k).2.2.1 = some (tyX6 k) := by decide +kernel
abbrev cX6_init : ByteArray := prog_8_method_1_code
def yX6_init : MethodName := ⟨RX6, "<init>", "(I)V"⟩
abbrev cX6_isFull : ByteArray := prog_8_method_2_code
def yX6_isFull : MethodName := ⟨RX6, "isFull", "()Z"⟩
abbrev cX6_add : ByteArray := prog_8_method_3_code
def yX6_add : MethodName := ⟨RX6, "add", "(II)V"⟩
abbrev cX6_dropLast : ByteArray := prog_8_method_4_code
def yX6_dropLast : MethodName := ⟨RX6, "dropLast", "()V"⟩
abbrev cX6_holding : ByteArray := prog_8_method_5_code
def yX6_holding : MethodName := ⟨RX6, "holding", "(II)I"⟩
abbrev cX6_nextDay : ByteArray := prog_8_method_6_code
def yX6_nextDay : MethodName := ⟨RX6, "nextDay", "(II)I"⟩
abbrev cX6_nextDayOfAny : ByteArray := prog_8_method_7_code
def yX6_nextDayOfAny : MethodName := ⟨RX6, "nextDayOfAny", "(I)I"⟩
def RX7 : String := "OneTime$Tape"
def TX7 : u_T := fun k => match k with
  | 0 => ("OneTime$Tape", "signs", "[I", true)
  | _ => ("OneTime$Tape", "size", "I", false)
def tyX7 : Nat → FieldType := fun k => match k with
  | 0 => .array .int
  | _ => .int
abbrev wsX70 : List Cond := u_ws RX7 TX7 2
theorem nmX7 : ∀ a, a < 2 → ∀ b, b < 2 → a ≠ b → (TX7 a).2.1 ≠ (TX7 b).2.1 := by decide +kernel
theorem tyX7_ok : ∀ k, k < 2 → parseFieldDescriptor (TX7 k).2.2.1 = some (tyX7 k) := by decide +kernel
abbrev cX7_init : ByteArray := prog_9_method_1_code
def yX7_init : MethodName := ⟨RX7, "<init>", "()V"⟩
abbrev cX7_addFour : ByteArray := prog_9_method_2_code
def yX7_addFour : MethodName := ⟨RX7, "addFour", "(I)I"⟩
abbrev cX7_cut : ByteArray := prog_9_method_3_code
def yX7_cut : MethodName := ⟨RX7, "cut", "(I)Z"⟩
abbrev cX7_clear : ByteArray := prog_9_method_4_code
def yX7_clear : MethodName := ⟨RX7, "clear", "()V"⟩
abbrev cX7_signAt : ByteArray := prog_9_method_5_code
def yX7_signAt : MethodName := ⟨RX7, "signAt", "(I)I"⟩
def RX8 : String := "OneTime$Towers"
def TX8 : u_T := fun k => match k with
  | 0 => ("OneTime$Towers", "size", "I", false)
  | 1 => ("OneTime$Towers", "suns", "[I", true)
  | 2 => ("OneTime$Towers", "setMinutes", "[I", true)
  | _ => ("OneTime$Towers", "drifts", "[I", true)
def tyX8 : Nat → FieldType := fun k => match k with
  | 0 => .int
  | 1 => .array .int
  | 2 => .array .int
  | _ => .array .int
abbrev wsX80 : List Cond := u_ws RX8 TX8 4
theorem nmX8 : ∀ a, a < 4 → ∀ b, b < 4 → a ≠ b → (TX8 a).2.1 ≠ (TX8 b).2.1 := by decide +kernel
theorem tyX8_ok : ∀ k, k < 4 → parseFieldDescriptor (TX8 k).2.2.1 = some (tyX8 k) := by decide +kernel
abbrev cX8_init : ByteArray := prog_10_method_1_code
def yX8_init : MethodName := ⟨RX8, "<init>", "()V"⟩
abbrev cX8_has : ByteArray := prog_10_method_2_code
def yX8_has : MethodName := ⟨RX8, "has", "(I)Z"⟩
abbrev cX8_build : ByteArray := prog_10_method_3_code
def yX8_build : MethodName := ⟨RX8, "build", "(III)I"⟩
abbrev cX8_isSetBy : ByteArray := prog_10_method_4_code
def yX8_isSetBy : MethodName := ⟨RX8, "isSetBy", "(II)Z"⟩
abbrev cX8_areAllSetBy : ByteArray := prog_10_method_5_code
def yX8_areAllSetBy : MethodName := ⟨RX8, "areAllSetBy", "(I)Z"⟩
abbrev cX8_sunOf : ByteArray := prog_10_method_6_code
def yX8_sunOf : MethodName := ⟨RX8, "sunOf", "(I)I"⟩
abbrev cX8_errorAt : ByteArray := prog_10_method_7_code
def yX8_errorAt : MethodName := ⟨RX8, "errorAt", "(II)I"⟩
def RX9 : String := "OneTime$Towns"
def TX9 : u_T := fun k => match k with
  | 0 => ("OneTime$Towns", "suns", "[I", true)
  | 1 => ("OneTime$Towns", "size", "I", false)
  | 2 => ("OneTime$Towns", "clocks", "LOneTime$Since;", true)
  | _ => ("OneTime$Towns", "shifts", "[I", true)
def tyX9 : Nat → FieldType := fun k => match k with
  | 0 => .array .int
  | 1 => .int
  | 2 => .object "OneTime$Since"
  | _ => .array .int
abbrev wsX90 : List Cond := u_ws RX9 TX9 4
theorem nmX9 : ∀ a, a < 4 → ∀ b, b < 4 → a ≠ b → (TX9 a).2.1 ≠ (TX9 b).2.1 := by decide +kernel
theorem tyX9_ok : ∀ k, k < 4 → parseFieldDescriptor (TX9 k).2.2.1 = some (tyX9 k) := by decide +kernel
abbrev cX9_init : ByteArray := prog_11_method_1_code
def yX9_init : MethodName := ⟨RX9, "<init>", "()V"⟩
abbrev cX9_has : ByteArray := prog_11_method_2_code
def yX9_has : MethodName := ⟨RX9, "has", "(I)Z"⟩
abbrev cX9_settle : ByteArray := prog_11_method_3_code
def yX9_settle : MethodName := ⟨RX9, "settle", "(I)I"⟩
abbrev cX9_isClock : ByteArray := prog_11_method_4_code
def yX9_isClock : MethodName := ⟨RX9, "isClock", "(III)Z"⟩
abbrev cX9_shiftOfKind : ByteArray := prog_11_method_5_code
def yX9_shiftOfKind : MethodName := ⟨RX9, "shiftOfKind", "(III)I"⟩
abbrev cX9_sunOf : ByteArray := prog_11_method_6_code
def yX9_sunOf : MethodName := ⟨RX9, "sunOf", "(I)I"⟩
abbrev cX9_tellClock : ByteArray := prog_11_method_7_code
def yX9_tellClock : MethodName := ⟨RX9, "tellClock", "(III)I"⟩
abbrev cX9_takeClockBack : ByteArray := prog_11_method_8_code
def yX9_takeClockBack : MethodName := ⟨RX9, "takeClockBack", "()I"⟩
abbrev cX9_shiftOn : ByteArray := prog_11_method_9_code
def yX9_shiftOn : MethodName := ⟨RX9, "shiftOn", "(II)I"⟩
abbrev cX9_readingAt : ByteArray := prog_11_method_10_code
def yX9_readingAt : MethodName := ⟨RX9, "readingAt", "(II)I"⟩
abbrev cX9_nearestZone : ByteArray := prog_11_method_11_code
def yX9_nearestZone : MethodName := ⟨RX9, "nearestZone", "(I)I"⟩
abbrev cX9_firstDayNear : ByteArray := prog_11_method_12_code
def yX9_firstDayNear : MethodName := ⟨RX9, "firstDayNear", "(I)I"⟩
abbrev cX9_minuteShowing : ByteArray := prog_11_method_13_code
def yX9_minuteShowing : MethodName := ⟨RX9, "minuteShowing", "(III)I"⟩
abbrev cX9_firstShowing : ByteArray := prog_11_method_14_code
def yX9_firstShowing : MethodName := ⟨RX9, "firstShowing", "(II)I"⟩
abbrev cX9_daysUnlike : ByteArray := prog_11_method_15_code
def yX9_daysUnlike : MethodName := ⟨RX9, "daysUnlike", "(II)I"⟩
abbrev cX9_firstDayAlike : ByteArray := prog_11_method_16_code
def yX9_firstDayAlike : MethodName := ⟨RX9, "firstDayAlike", "(I)I"⟩
abbrev cX9_areAlikeOn : ByteArray := prog_11_method_17_code
def yX9_areAlikeOn : MethodName := ⟨RX9, "areAlikeOn", "(I)Z"⟩
def RX10 : String := "OneTime"
def TX10 : u_T := fun k => match k with
  | 0 => ("OneTime", "towns", "LOneTime$Towns;", true)
  | 1 => ("OneTime", "line", "LOneTime$Line;", true)
  | 2 => ("OneTime", "delaySearch", "LOneTime$DelaySearch;", true)
  | 3 => ("OneTime", "tape", "LOneTime$Tape;", true)
  | 4 => ("OneTime", "laws", "LOneTime$Laws;", true)
  | 5 => ("OneTime", "towers", "LOneTime$Towers;", true)
  | 6 => ("OneTime", "roundSearch", "LOneTime$RoundSearch;", true)
  | _ => ("OneTime", "told", "LOneTime$Row;", true)
def tyX10 : Nat → FieldType := fun k => match k with
  | 0 => .object "OneTime$Towns"
  | 1 => .object "OneTime$Line"
  | 2 => .object "OneTime$DelaySearch"
  | 3 => .object "OneTime$Tape"
  | 4 => .object "OneTime$Laws"
  | 5 => .object "OneTime$Towers"
  | 6 => .object "OneTime$RoundSearch"
  | _ => .object "OneTime$Row"
abbrev wsX100 : List Cond := u_ws RX10 TX10 8
theorem nmX10 : ∀ a, a < 8 → ∀ b, b < 8 → a ≠ b → (TX10 a).2.1 ≠ (TX10 b).2.1 := by decide +kernel
theorem tyX10_ok : ∀ k, k < 8 → parseFieldDescriptor (TX10 k).2.2.1 = some (tyX10 k) := by decide +kernel
abbrev cX10_init : ByteArray := prog_1_method_1_code
def yX10_init : MethodName := ⟨RX10, "<init>", "()V"⟩
abbrev cX10_town : ByteArray := prog_1_method_2_code
def yX10_town : MethodName := ⟨RX10, "town", "(I)I"⟩
abbrev cX10_clock : ByteArray := prog_1_method_3_code
def yX10_clock : MethodName := ⟨RX10, "clock", "(IIII)I"⟩
abbrev cX10_untell : ByteArray := prog_1_method_4_code
def yX10_untell : MethodName := ⟨RX10, "untell", "()I"⟩
abbrev cX10_count : ByteArray := prog_1_method_5_code
def yX10_count : MethodName := ⟨RX10, "count", "(I)I"⟩
abbrev cX10_read : ByteArray := prog_1_method_6_code
def yX10_read : MethodName := ⟨RX10, "read", "(II)I"⟩
abbrev cX10_when : ByteArray := prog_1_method_7_code
def yX10_when : MethodName := ⟨RX10, "when", "(II)I"⟩
abbrev cX10_turned : ByteArray := prog_1_method_8_code
def yX10_turned : MethodName := ⟨RX10, "turned", "(III)I"⟩
abbrev cX10_unlike : ByteArray := prog_1_method_9_code
def yX10_unlike : MethodName := ⟨RX10, "unlike", "(II)I"⟩
abbrev cX10_one : ByteArray := prog_1_method_10_code
def yX10_one : MethodName := ⟨RX10, "one", "(I)I"⟩
abbrev cX10_station : ByteArray := prog_1_method_11_code
def yX10_station : MethodName := ⟨RX10, "station", "(II)I"⟩
abbrev cX10_train : ByteArray := prog_1_method_12_code
def yX10_train : MethodName := ⟨RX10, "train", "(ZIII)I"⟩
abbrev cX10_leaves : ByteArray := prog_1_method_13_code
def yX10_leaves : MethodName := ⟨RX10, "leaves", "(II)I"⟩
abbrev cX10_delay : ByteArray := prog_1_method_14_code
def yX10_delay : MethodName := ⟨RX10, "delay", "(II)Z"⟩
abbrev cX10_meet : ByteArray := prog_1_method_15_code
def yX10_meet : MethodName := ⟨RX10, "meet", "()I"⟩
abbrev cX10_free : ByteArray := prog_1_method_16_code
def yX10_free : MethodName := ⟨RX10, "free", "()I"⟩
abbrev cX10_close : ByteArray := prog_1_method_17_code
def yX10_close : MethodName := ⟨RX10, "close", "()I"⟩
abbrev cX10_sign : ByteArray := prog_1_method_18_code
def yX10_sign : MethodName := ⟨RX10, "sign", "(I)I"⟩
abbrev cX10_end : ByteArray := prog_1_method_19_code
def yX10_end : MethodName := ⟨RX10, "end", "(I)Z"⟩
abbrev cX10_law : ByteArray := prog_1_method_20_code
def yX10_law : MethodName := ⟨RX10, "law", "(II)I"⟩
abbrev cX10_judged : ByteArray := prog_1_method_21_code
def yX10_judged : MethodName := ⟨RX10, "judged", "(III)I"⟩
abbrev cX10_late : ByteArray := prog_1_method_22_code
def yX10_late : MethodName := ⟨RX10, "late", "(IIIIII)I"⟩
abbrev cX10_tower : ByteArray := prog_1_method_23_code
def yX10_tower : MethodName := ⟨RX10, "tower", "(III)I"⟩
abbrev cX10_error : ByteArray := prog_1_method_24_code
def yX10_error : MethodName := ⟨RX10, "error", "(II)I"⟩
abbrev cX10_set : ByteArray := prog_1_method_25_code
def yX10_set : MethodName := ⟨RX10, "set", "(II)I"⟩
abbrev cX10_round : ByteArray := prog_1_method_26_code
def yX10_round : MethodName := ⟨RX10, "round", "(II)I"⟩
abbrev cX10_row : ByteArray := prog_1_method_27_code
def yX10_row : MethodName := ⟨RX10, "row", "(I)I"⟩
abbrev cX10_isDay : ByteArray := prog_1_method_28_code
def yX10_isDay : MethodName := ⟨RX10, "isDay", "(I)Z"⟩
abbrev cX10_isMinute : ByteArray := prog_1_method_29_code
def yX10_isMinute : MethodName := ⟨RX10, "isMinute", "(I)Z"⟩
abbrev cX10_isTimeOfDay : ByteArray := prog_1_method_30_code
def yX10_isTimeOfDay : MethodName := ⟨RX10, "isTimeOfDay", "(I)Z"⟩
abbrev cX10_isMatter : ByteArray := prog_1_method_31_code
def yX10_isMatter : MethodName := ⟨RX10, "isMatter", "(I)Z"⟩
abbrev cX10_shiftFor : ByteArray := prog_1_method_32_code
def yX10_shiftFor : MethodName := ⟨RX10, "shiftFor", "(III)I"⟩
abbrev cX10_nextChange : ByteArray := prog_1_method_33_code
def yX10_nextChange : MethodName := ⟨RX10, "nextChange", "(II)I"⟩
def RX11 : String := "OneTimeModel"
def TX11 : u_T := fun k => match k with
  | 0 => ("OneTimeModel", "thrown", "I", false)
  | 1 => ("OneTimeModel", "towns", "I", false)
  | 2 => ("OneTimeModel", "sun", "[I", true)
  | 3 => ("OneTimeModel", "clocks", "I", false)
  | 4 => ("OneTimeModel", "clockTown", "[I", true)
  | 5 => ("OneTimeModel", "clockDay", "[I", true)
  | 6 => ("OneTimeModel", "clockKind", "[I", true)
  | 7 => ("OneTimeModel", "clockArg", "[I", true)
  | 8 => ("OneTimeModel", "rows", "I", false)
  | 9 => ("OneTimeModel", "row", "[I", true)
  | 10 => ("OneTimeModel", "stations", "I", false)
  | 11 => ("OneTimeModel", "stationTown", "[I", true)
  | 12 => ("OneTimeModel", "run", "[I", true)
  | 13 => ("OneTimeModel", "trains", "I", false)
  | 14 => ("OneTimeModel", "isUp", "[Z", true)
  | 15 => ("OneTimeModel", "start", "[I", true)
  | 16 => ("OneTimeModel", "stay", "[I", true)
  | 17 => ("OneTimeModel", "delay", "[I", true)
  | 18 => ("OneTimeModel", "trial", "[I", true)
  | 19 => ("OneTimeModel", "found", "[I", true)
  | 20 => ("OneTimeModel", "foundMoved", "I", false)
  | 21 => ("OneTimeModel", "foundSum", "I", false)
  | 22 => ("OneTimeModel", "tape", "[I", true)
  | 23 => ("OneTimeModel", "taped", "I", false)
  | 24 => ("OneTimeModel", "laws", "I", false)
  | 25 => ("OneTimeModel", "lawTown", "[I", true)
  | 26 => ("OneTimeModel", "lawDay", "[I", true)
  | 27 => ("OneTimeModel", "lawOf", "[I", true)
  | 28 => ("OneTimeModel", "lawMore", "[I", true)
  | 29 => ("OneTimeModel", "at", "I", false)
  | 30 => ("OneTimeModel", "towers", "I", false)
  | 31 => ("OneTimeModel", "towerTown", "[I", true)
  | 32 => ("OneTimeModel", "setAt", "[I", true)
  | 33 => ("OneTimeModel", "drift", "[I", true)
  | 34 => ("OneTimeModel", "order", "[I", true)
  | 35 => ("OneTimeModel", "best", "[I", true)
  | 36 => ("OneTimeModel", "bestError", "I", false)
  | _ => ("OneTimeModel", "bestEnd", "I", false)
def tyX11 : Nat → FieldType := fun k => match k with
  | 0 => .int
  | 1 => .int
  | 2 => .array .int
  | 3 => .int
  | 4 => .array .int
  | 5 => .array .int
  | 6 => .array .int
  | 7 => .array .int
  | 8 => .int
  | 9 => .array .int
  | 10 => .int
  | 11 => .array .int
  | 12 => .array .int
  | 13 => .int
  | 14 => .array .boolean
  | 15 => .array .int
  | 16 => .array .int
  | 17 => .array .int
  | 18 => .array .int
  | 19 => .array .int
  | 20 => .int
  | 21 => .int
  | 22 => .array .int
  | 23 => .int
  | 24 => .int
  | 25 => .array .int
  | 26 => .array .int
  | 27 => .array .int
  | 28 => .array .int
  | 29 => .int
  | 30 => .int
  | 31 => .array .int
  | 32 => .array .int
  | 33 => .array .int
  | 34 => .array .int
  | 35 => .array .int
  | 36 => .int
  | _ => .int
abbrev wsX110 : List Cond := u_ws RX11 TX11 38
theorem nmX11 : ∀ a, a < 38 → ∀ b, b < 38 → a ≠ b → (TX11 a).2.1 ≠ (TX11 b).2.1 := by decide +kernel
theorem tyX11_ok : ∀ k, k < 38 → parseFieldDescriptor (TX11 k).2.2.1 = some (tyX11 k) := by decide +kernel
abbrev cX11_init : ByteArray := prog_13_method_1_code
def yX11_init : MethodName := ⟨RX11, "<init>", "()V"⟩
abbrev cX11_thrown : ByteArray := prog_13_method_2_code
def yX11_thrown : MethodName := ⟨RX11, "thrown", "()I"⟩
abbrev cX11_in : ByteArray := prog_13_method_3_code
def yX11_in : MethodName := ⟨RX11, "in", "(JJJ)Z"⟩
abbrev cX11_refuse : ByteArray := prog_13_method_4_code
def yX11_refuse : MethodName := ⟨RX11, "refuse", "()I"⟩
abbrev cX11_isTown : ByteArray := prog_13_method_5_code
def yX11_isTown : MethodName := ⟨RX11, "isTown", "(I)Z"⟩
abbrev cX11_isDay : ByteArray := prog_13_method_6_code
def yX11_isDay : MethodName := ⟨RX11, "isDay", "(I)Z"⟩
abbrev cX11_isMinute : ByteArray := prog_13_method_7_code
def yX11_isMinute : MethodName := ⟨RX11, "isMinute", "(I)Z"⟩
abbrev cX11_town : ByteArray := prog_13_method_8_code
def yX11_town : MethodName := ⟨RX11, "town", "(I)I"⟩
abbrev cX11_clock : ByteArray := prog_13_method_9_code
def yX11_clock : MethodName := ⟨RX11, "clock", "(IIII)I"⟩
abbrev cX11_untell : ByteArray := prog_13_method_10_code
def yX11_untell : MethodName := ⟨RX11, "untell", "()I"⟩
abbrev cX11_ahead : ByteArray := prog_13_method_11_code
def yX11_ahead : MethodName := ⟨RX11, "ahead", "(II)I"⟩
abbrev cX11_count : ByteArray := prog_13_method_12_code
def yX11_count : MethodName := ⟨RX11, "count", "(I)I"⟩
abbrev cX11_read : ByteArray := prog_13_method_13_code
def yX11_read : MethodName := ⟨RX11, "read", "(II)I"⟩
abbrev cX11_when : ByteArray := prog_13_method_14_code
def yX11_when : MethodName := ⟨RX11, "when", "(II)I"⟩
abbrev cX11_firstAt : ByteArray := prog_13_method_15_code
def yX11_firstAt : MethodName := ⟨RX11, "firstAt", "(IJ)I"⟩
abbrev cX11_turned : ByteArray := prog_13_method_16_code
def yX11_turned : MethodName := ⟨RX11, "turned", "(III)I"⟩
abbrev cX11_unlike : ByteArray := prog_13_method_17_code
def yX11_unlike : MethodName := ⟨RX11, "unlike", "(II)I"⟩
abbrev cX11_one : ByteArray := prog_13_method_18_code
def yX11_one : MethodName := ⟨RX11, "one", "(I)I"⟩
abbrev cX11_station : ByteArray := prog_13_method_19_code
def yX11_station : MethodName := ⟨RX11, "station", "(II)I"⟩
abbrev cX11_train : ByteArray := prog_13_method_20_code
def yX11_train : MethodName := ⟨RX11, "train", "(ZIII)I"⟩
abbrev cX11_leavesAt : ByteArray := prog_13_method_21_code
def yX11_leavesAt : MethodName := ⟨RX11, "leavesAt", "(III)I"⟩
abbrev cX11_begins : ByteArray := prog_13_method_22_code
def yX11_begins : MethodName := ⟨RX11, "begins", "(III)I"⟩
abbrev cX11_isTrain : ByteArray := prog_13_method_23_code
def yX11_isTrain : MethodName := ⟨RX11, "isTrain", "(I)Z"⟩
abbrev cX11_leaves : ByteArray := prog_13_method_24_code
def yX11_leaves : MethodName := ⟨RX11, "leaves", "(II)I"⟩
abbrev cX11_delay : ByteArray := prog_13_method_25_code
def yX11_delay : MethodName := ⟨RX11, "delay", "(II)Z"⟩
abbrev cX11_meeting : ByteArray := prog_13_method_26_code
def yX11_meeting : MethodName := ⟨RX11, "meeting", "(IIII)I"⟩
abbrev cX11_meet : ByteArray := prog_13_method_27_code
def yX11_meet : MethodName := ⟨RX11, "meet", "()I"⟩
abbrev cX11_delays : ByteArray := prog_13_method_28_code
def yX11_delays : MethodName := ⟨RX11, "delays", "(III)V"⟩
abbrev cX11_free : ByteArray := prog_13_method_29_code
def yX11_free : MethodName := ⟨RX11, "free", "()I"⟩
abbrev cX11_close : ByteArray := prog_13_method_30_code
def yX11_close : MethodName := ⟨RX11, "close", "()I"⟩
abbrev cX11_sign : ByteArray := prog_13_method_31_code
def yX11_sign : MethodName := ⟨RX11, "sign", "(I)I"⟩
abbrev cX11_end : ByteArray := prog_13_method_32_code
def yX11_end : MethodName := ⟨RX11, "end", "(I)Z"⟩
abbrev cX11_isSign : ByteArray := prog_13_method_33_code
def yX11_isSign : MethodName := ⟨RX11, "isSign", "(ILjava/lang/String;)Z"⟩
abbrev cX11_item : ByteArray := prog_13_method_34_code
def yX11_item : MethodName := ⟨RX11, "item", "(I)Z"⟩
abbrev cX11_reads : ByteArray := prog_13_method_35_code
def yX11_reads : MethodName := ⟨RX11, "reads", "(I)Z"⟩
abbrev cX11_law : ByteArray := prog_13_method_36_code
def yX11_law : MethodName := ⟨RX11, "law", "(II)I"⟩
abbrev cX11_more : ByteArray := prog_13_method_37_code
def yX11_more : MethodName := ⟨RX11, "more", "(III)I"⟩
abbrev cX11_isMatter : ByteArray := prog_13_method_38_code
def yX11_isMatter : MethodName := ⟨RX11, "isMatter", "(II)Z"⟩
abbrev cX11_judged : ByteArray := prog_13_method_39_code
def yX11_judged : MethodName := ⟨RX11, "judged", "(III)I"⟩
abbrev cX11_late : ByteArray := prog_13_method_40_code
def yX11_late : MethodName := ⟨RX11, "late", "(IIIIII)I"⟩
abbrev cX11_tower : ByteArray := prog_13_method_41_code
def yX11_tower : MethodName := ⟨RX11, "tower", "(III)I"⟩
abbrev cX11_errorOf : ByteArray := prog_13_method_42_code
def yX11_errorOf : MethodName := ⟨RX11, "errorOf", "(II)I"⟩
abbrev cX11_isAsked : ByteArray := prog_13_method_43_code
def yX11_isAsked : MethodName := ⟨RX11, "isAsked", "(II)Z"⟩
abbrev cX11_error : ByteArray := prog_13_method_44_code
def yX11_error : MethodName := ⟨RX11, "error", "(II)I"⟩
abbrev cX11_set : ByteArray := prog_13_method_45_code
def yX11_set : MethodName := ⟨RX11, "set", "(II)I"⟩
abbrev cX11_goes : ByteArray := prog_13_method_46_code
def yX11_goes : MethodName := ⟨RX11, "goes", "(IIIII)V"⟩
abbrev cX11_round : ByteArray := prog_13_method_47_code
def yX11_round : MethodName := ⟨RX11, "round", "(II)I"⟩
abbrev cX11_row : ByteArray := prog_13_method_48_code
def yX11_row : MethodName := ⟨RX11, "row", "(I)I"⟩
def RJ11 : String := "java/lang/Character"
def TJ11 : u_T := fun k => match k with
  | _ => ("", "", "", false)
def tyJ11 : Nat → FieldType := fun k => match k with
  | _ => .int
abbrev wsJ110 : List Cond := u_ws RJ11 TJ11 0
theorem nmJ11 : ∀ a, a < 0 → ∀ b, b < 0 → a ≠ b → (TJ11 a).2.1 ≠ (TJ11 b).2.1 := by decide +kernel
theorem tyJ11_ok : ∀ k, k < 0 → parseFieldDescriptor (TJ11 k).2.2.1 = some (tyJ11 k) := by decide +kernel
abbrev cJ11_isValidCodePoint_9a6ad : ByteArray := prog_14_method_11_code
def yJ11_isValidCodePoint_9a6ad : MethodName := ⟨RJ11, "isValidCodePoint", "(I)Z"⟩
abbrev cJ11_highSurrogate_5068e : ByteArray := prog_14_method_28_code
def yJ11_highSurrogate_5068e : MethodName := ⟨RJ11, "highSurrogate", "(I)C"⟩
abbrev cJ11_lowSurrogate_5068e : ByteArray := prog_14_method_29_code
def yJ11_lowSurrogate_5068e : MethodName := ⟨RJ11, "lowSurrogate", "(I)C"⟩
def RJ6 : String := "java/lang/Integer"
def TJ6 : u_T := fun k => match k with
  | _ => ("", "", "", false)
def tyJ6 : Nat → FieldType := fun k => match k with
  | _ => .int
abbrev wsJ60 : List Cond := u_ws RJ6 TJ6 0
theorem nmJ6 : ∀ a, a < 0 → ∀ b, b < 0 → a ≠ b → (TJ6 a).2.1 ≠ (TJ6 b).2.1 := by decide +kernel
theorem tyJ6_ok : ∀ k, k < 0 → parseFieldDescriptor (TJ6 k).2.2.1 = some (tyJ6 k) := by decide +kernel
abbrev cJ6_bitCount_0f7a4 : ByteArray := prog_16_method_49_code
def yJ6_bitCount_0f7a4 : MethodName := ⟨RJ6, "bitCount", "(I)I"⟩
def RJ9 : String := "java/lang/Math"
def TJ9 : u_T := fun k => match k with
  | _ => ("", "", "", false)
def tyJ9 : Nat → FieldType := fun k => match k with
  | _ => .int
abbrev wsJ90 : List Cond := u_ws RJ9 TJ9 0
theorem nmJ9 : ∀ a, a < 0 → ∀ b, b < 0 → a ≠ b → (TJ9 a).2.1 ≠ (TJ9 b).2.1 := by decide +kernel
theorem tyJ9_ok : ∀ k, k < 0 → parseFieldDescriptor (TJ9 k).2.2.1 = some (tyJ9 k) := by decide +kernel
abbrev cJ9_floorDiv_7cf53 : ByteArray := prog_17_method_47_code
def yJ9_floorDiv_7cf53 : MethodName := ⟨RJ9, "floorDiv", "(II)I"⟩
abbrev cJ9_floorMod_7cf53 : ByteArray := prog_17_method_50_code
def yJ9_floorMod_7cf53 : MethodName := ⟨RJ9, "floorMod", "(II)I"⟩
abbrev cJ9_abs_0f7a4 : ByteArray := prog_17_method_59_code
def yJ9_abs_0f7a4 : MethodName := ⟨RJ9, "abs", "(I)I"⟩
abbrev cJ9_max_7cf53 : ByteArray := prog_17_method_65_code
def yJ9_max_7cf53 : MethodName := ⟨RJ9, "max", "(II)I"⟩
abbrev cJ9_min_7cf53 : ByteArray := prog_17_method_69_code
def yJ9_min_7cf53 : MethodName := ⟨RJ9, "min", "(II)I"⟩
def RJ0 : String := "java/lang/String"
def TJ0 : u_T := fun k => match k with
  | _ => ("", "", "", false)
def tyJ0 : Nat → FieldType := fun k => match k with
  | _ => .int
abbrev wsJ00 : List Cond := u_ws RJ0 TJ0 0
theorem nmJ0 : ∀ a, a < 0 → ∀ b, b < 0 → a ≠ b → (TJ0 a).2.1 ≠ (TJ0 b).2.1 := by decide +kernel
theorem tyJ0_ok : ∀ k, k < 0 → parseFieldDescriptor (TJ0 k).2.2.1 = some (tyJ0 k) := by decide +kernel
abbrev cJ0_length_8abf5 : ByteArray := prog_19_method_54_code
def yJ0_length_8abf5 : MethodName := ⟨RJ0, "length", "()I"⟩
abbrev cJ0_indexOf_0f7a4 : ByteArray := prog_19_method_79_code
def yJ0_indexOf_0f7a4 : MethodName := ⟨RJ0, "indexOf", "(I)I"⟩
abbrev cJ0_indexOf_7cf53 : ByteArray := prog_19_method_80_code
def yJ0_indexOf_7cf53 : MethodName := ⟨RJ0, "indexOf", "(II)I"⟩
abbrev cJ0_coder_7d493 : ByteArray := prog_19_method_152_code
def yJ0_coder_7d493 : MethodName := ⟨RJ0, "coder", "()B"⟩
abbrev cJ0_isLatin1_aae02 : ByteArray := prog_19_method_154_code
def yJ0_isLatin1_aae02 : MethodName := ⟨RJ0, "isLatin1", "()Z"⟩
abbrev cJ0_checkBoundsBeginEnd_23922 : ByteArray := prog_19_method_158_code
def yJ0_checkBoundsBeginEnd_23922 : MethodName := ⟨RJ0, "checkBoundsBeginEnd", "(III)V"⟩
def RJ1 : String := "java/lang/StringLatin1"
def TJ1 : u_T := fun k => match k with
  | _ => ("", "", "", false)
def tyJ1 : Nat → FieldType := fun k => match k with
  | _ => .int
abbrev wsJ10 : List Cond := u_ws RJ1 TJ1 0
theorem nmJ1 : ∀ a, a < 0 → ∀ b, b < 0 → a ≠ b → (TJ1 a).2.1 ≠ (TJ1 b).2.1 := by decide +kernel
theorem tyJ1_ok : ∀ k, k < 0 → parseFieldDescriptor (TJ1 k).2.2.1 = some (tyJ1 k) := by decide +kernel
abbrev cJ1_canEncode_9a6ad : ByteArray := prog_20_method_4_code
def yJ1_canEncode_9a6ad : MethodName := ⟨RJ1, "canEncode", "(I)Z"⟩
abbrev cJ1_indexOf_4cfef : ByteArray := prog_20_method_22_code
def yJ1_indexOf_4cfef : MethodName := ⟨RJ1, "indexOf", "([BIII)I"⟩
abbrev cJ1_indexOfChar_4cfef : ByteArray := prog_20_method_23_code
def yJ1_indexOfChar_4cfef : MethodName := ⟨RJ1, "indexOfChar", "([BIII)I"⟩
def RJ2 : String := "java/lang/StringUTF16"
def TJ2 : u_T := fun k => match k with
  | _ => ("", "", "", false)
def tyJ2 : Nat → FieldType := fun k => match k with
  | _ => .int
abbrev wsJ20 : List Cond := u_ws RJ2 TJ2 0
theorem nmJ2 : ∀ a, a < 0 → ∀ b, b < 0 → a ≠ b → (TJ2 a).2.1 ≠ (TJ2 b).2.1 := by decide +kernel
theorem tyJ2_ok : ∀ k, k < 0 → parseFieldDescriptor (TJ2 k).2.2.1 = some (tyJ2 k) := by decide +kernel
abbrev cJ2_getChar_3b067 : ByteArray := prog_21_method_5_code
def yJ2_getChar_3b067 : MethodName := ⟨RJ2, "getChar", "([BI)C"⟩
abbrev cJ2_length_9d52b : ByteArray := prog_21_method_6_code
def yJ2_length_9d52b : MethodName := ⟨RJ2, "length", "([B)I"⟩
abbrev cJ2_indexOf_4cfef : ByteArray := prog_21_method_40_code
def yJ2_indexOf_4cfef : MethodName := ⟨RJ2, "indexOf", "([BIII)I"⟩
abbrev cJ2_indexOfChar_4cfef : ByteArray := prog_21_method_47_code
def yJ2_indexOfChar_4cfef : MethodName := ⟨RJ2, "indexOfChar", "([BIII)I"⟩
abbrev cJ2_indexOfCharUnsafe_4cfef : ByteArray := prog_21_method_48_code
def yJ2_indexOfCharUnsafe_4cfef : MethodName := ⟨RJ2, "indexOfCharUnsafe", "([BIII)I"⟩
abbrev cJ2_indexOfSupplementary_4cfef : ByteArray := prog_21_method_49_code
def yJ2_indexOfSupplementary_4cfef : MethodName := ⟨RJ2, "indexOfSupplementary", "([BIII)I"⟩
abbrev cJ2_checkBoundsBeginEnd_d044e : ByteArray := prog_21_method_93_code
def yJ2_checkBoundsBeginEnd_d044e : MethodName := ⟨RJ2, "checkBoundsBeginEnd", "(II[B)V"⟩
def RJ3 : String := "jdk/internal/util/Preconditions"
def TJ3 : u_T := fun k => match k with
  | _ => ("", "", "", false)
def tyJ3 : Nat → FieldType := fun k => match k with
  | _ => .int
abbrev wsJ30 : List Cond := u_ws RJ3 TJ3 0
theorem nmJ3 : ∀ a, a < 0 → ∀ b, b < 0 → a ≠ b → (TJ3 a).2.1 ≠ (TJ3 b).2.1 := by decide +kernel
theorem tyJ3_ok : ∀ k, k < 0 → parseFieldDescriptor (TJ3 k).2.2.1 = some (tyJ3 k) := by decide +kernel
abbrev cJ3_checkFromToIndex_8c36e : ByteArray := prog_24_method_12_code
def yJ3_checkFromToIndex_8c36e : MethodName := ⟨RJ3, "checkFromToIndex", "(IIILjava/util/function/BiFunction;)I"⟩
def RL : String := "OneTimeLaw"
abbrev cL_read : ByteArray := method_3_code
def yL_read : MethodName := ⟨RL, "read", "(LOneTime;II[J)I"⟩
abbrev cL_turned : ByteArray := method_4_code
def yL_turned : MethodName := ⟨RL, "turned", "(LOneTime;III[J)I"⟩
abbrev cL_judged : ByteArray := method_5_code
def yL_judged : MethodName := ⟨RL, "judged", "(LOneTime;III[J)I"⟩
abbrev cL_error : ByteArray := method_6_code
def yL_error : MethodName := ⟨RL, "error", "(LOneTime;II[J)I"⟩
abbrev cL_set : ByteArray := method_7_code
def yL_set : MethodName := ⟨RL, "set", "(LOneTime;II[J)I"⟩
abbrev cL_row : ByteArray := method_8_code
def yL_row : MethodName := ⟨RL, "row", "(LOneTime;I[J)I"⟩
abbrev cL_law : ByteArray := code
def yL_law : MethodName := ⟨RL, "law", "([I)Z"⟩
def wsX0_init : List Cond := .code yX0_init cX0_init 1 none :: ([.methodLink RX0 5 objectInit, .instanceMethod objectInit, .code objectInit ⟨#[0xb1]⟩ 1 none, .classLink RX0 11 "[[I", .arrayClass .int, .fieldLink RX0 13 "OneTime$DelaySearch" "apart" "[[I", .fieldLink RX0 16 "OneTime$DelaySearch" "open" "[[I", .fieldLink RX0 19 "OneTime$DelaySearch" "steps" "[I", .fieldLink RX0 23 "OneTime$DelaySearch" "best" "[I", .fieldLink RX0 26 "OneTime$DelaySearch" "trains" "I", .fieldLink RX0 30 "OneTime$DelaySearch" "bestCost" "I"] ++ wsX00)
def wsX3_hasTrain : List Cond := .code yX3_hasTrain cX3_hasTrain 2 (some .boolean) :: ([.fieldLink RX3 22 "OneTime$Line" "trains" "I"] ++ wsX30)
def wsX3_hasStation : List Cond := .code yX3_hasStation cX3_hasStation 2 (some .boolean) :: ([.fieldLink RX3 9 "OneTime$Line" "stations" "I"] ++ wsX30)
def wsX3_plannedAt : List Cond := .code yX3_plannedAt cX3_plannedAt 7 (some .int) :: ([.fieldLink RX3 9 "OneTime$Line" "stations" "I", .fieldLink RX3 25 "OneTime$Line" "ups" "[Z", .fieldLink RX3 19 "OneTime$Line" "ways" "[I", .fieldLink RX3 29 "OneTime$Line" "starts" "[I", .fieldLink RX3 32 "OneTime$Line" "stays" "[I", .methodLink RX3 42 yX3_hasTrain, .instanceMethod yX3_hasTrain, .selects RX3 yX3_hasTrain yX3_hasTrain, .initialized RX3, .code yX3_hasTrain cX3_hasTrain 2 (some .boolean), .fieldLink RX3 22 "OneTime$Line" "trains" "I", .methodLink RX3 38 yX3_hasStation, .instanceMethod yX3_hasStation, .selects RX3 yX3_hasStation yX3_hasStation, .code yX3_hasStation cX3_hasStation 2 (some .boolean)] ++ wsX30)
def wsX3_plannedOnRun : List Cond := .code yX3_plannedOnRun cX3_plannedOnRun 3 (some .int) :: ([.fieldLink RX3 25 "OneTime$Line" "ups" "[Z", .methodLink RX3 42 yX3_hasTrain, .instanceMethod yX3_hasTrain, .selects RX3 yX3_hasTrain yX3_hasTrain, .initialized RX3, .code yX3_hasTrain cX3_hasTrain 2 (some .boolean), .fieldLink RX3 22 "OneTime$Line" "trains" "I", .methodLink RX3 45 yX3_plannedAt, .instanceMethod yX3_plannedAt, .selects RX3 yX3_plannedAt yX3_plannedAt, .code yX3_plannedAt cX3_plannedAt 7 (some .int), .fieldLink RX3 9 "OneTime$Line" "stations" "I", .fieldLink RX3 19 "OneTime$Line" "ways" "[I", .fieldLink RX3 29 "OneTime$Line" "starts" "[I", .fieldLink RX3 32 "OneTime$Line" "stays" "[I", .methodLink RX3 38 yX3_hasStation, .instanceMethod yX3_hasStation, .selects RX3 yX3_hasStation yX3_hasStation, .code yX3_hasStation cX3_hasStation 2 (some .boolean)] ++ wsX30)
def wsX3_lengthOf : List Cond := .code yX3_lengthOf cX3_lengthOf 2 (some .int) :: ([.fieldLink RX3 19 "OneTime$Line" "ways" "[I", .methodLink RX3 38 yX3_hasStation, .instanceMethod yX3_hasStation, .selects RX3 yX3_hasStation yX3_hasStation, .initialized RX3, .code yX3_hasStation cX3_hasStation 2 (some .boolean), .fieldLink RX3 9 "OneTime$Line" "stations" "I"] ++ wsX30)
def wsX3_firstRunMeetingWith_r1 : List Cond := [Cond.fieldLink RX3 9 "OneTime$Line" "stations" "I", Cond.methodLink RX3 56 Lib.Math.abs.name, Cond.static Lib.Math.abs.name, Cond.initialized "java/lang/Math", Cond.code Lib.Math.abs.name Lib.Math.abs.code 1 (some .int), Cond.methodLink RX3 53 yX3_plannedOnRun, Cond.instanceMethod yX3_plannedOnRun, Cond.selects RX3 yX3_plannedOnRun yX3_plannedOnRun, Cond.initialized RX3, Cond.code yX3_plannedOnRun cX3_plannedOnRun 3 (some .int), Cond.fieldLink RX3 25 "OneTime$Line" "ups" "[Z", Cond.methodLink RX3 42 yX3_hasTrain, Cond.instanceMethod yX3_hasTrain, Cond.selects RX3 yX3_hasTrain yX3_hasTrain, Cond.code yX3_hasTrain cX3_hasTrain 2 (some .boolean), Cond.fieldLink RX3 22 "OneTime$Line" "trains" "I", Cond.methodLink RX3 45 yX3_plannedAt, Cond.instanceMethod yX3_plannedAt, Cond.selects RX3 yX3_plannedAt yX3_plannedAt, Cond.code yX3_plannedAt cX3_plannedAt 7 (some .int), Cond.fieldLink RX3 19 "OneTime$Line" "ways" "[I", Cond.fieldLink RX3 29 "OneTime$Line" "starts" "[I", Cond.fieldLink RX3 32 "OneTime$Line" "stays" "[I", Cond.methodLink RX3 38 yX3_hasStation]
def wsX3_firstRunMeetingWith_r2 : List Cond := [Cond.instanceMethod yX3_hasStation, Cond.selects RX3 yX3_hasStation yX3_hasStation, Cond.code yX3_hasStation cX3_hasStation 2 (some .boolean), Cond.methodLink RX3 62 yX3_lengthOf, Cond.instanceMethod yX3_lengthOf, Cond.selects RX3 yX3_lengthOf yX3_lengthOf, Cond.code yX3_lengthOf cX3_lengthOf 2 (some .int)]
def wsX3_firstRunMeetingWith : List Cond := .code yX3_firstRunMeetingWith cX3_firstRunMeetingWith 6 (some .int) :: ((wsX3_firstRunMeetingWith_r1 ++ wsX3_firstRunMeetingWith_r2) ++ wsX30)
def wsX0_stepsApart_r1 : List Cond := [Cond.methodLink RX0 53 yX3_firstRunMeetingWith, Cond.instanceMethod yX3_firstRunMeetingWith, Cond.selects RX3 yX3_firstRunMeetingWith yX3_firstRunMeetingWith, Cond.initialized RX3, Cond.code yX3_firstRunMeetingWith cX3_firstRunMeetingWith 6 (some .int), Cond.fieldLink RX3 9 "OneTime$Line" "stations" "I", Cond.methodLink RX3 56 Lib.Math.abs.name, Cond.static Lib.Math.abs.name, Cond.initialized "java/lang/Math", Cond.code Lib.Math.abs.name Lib.Math.abs.code 1 (some .int), Cond.methodLink RX3 53 yX3_plannedOnRun, Cond.instanceMethod yX3_plannedOnRun, Cond.selects RX3 yX3_plannedOnRun yX3_plannedOnRun, Cond.code yX3_plannedOnRun cX3_plannedOnRun 3 (some .int), Cond.fieldLink RX3 25 "OneTime$Line" "ups" "[Z", Cond.methodLink RX3 42 yX3_hasTrain, Cond.instanceMethod yX3_hasTrain, Cond.selects RX3 yX3_hasTrain yX3_hasTrain, Cond.code yX3_hasTrain cX3_hasTrain 2 (some .boolean), Cond.fieldLink RX3 22 "OneTime$Line" "trains" "I", Cond.methodLink RX3 45 yX3_plannedAt, Cond.instanceMethod yX3_plannedAt, Cond.selects RX3 yX3_plannedAt yX3_plannedAt, Cond.code yX3_plannedAt cX3_plannedAt 7 (some .int)]
def wsX0_stepsApart_r2 : List Cond := [Cond.fieldLink RX3 19 "OneTime$Line" "ways" "[I", Cond.fieldLink RX3 29 "OneTime$Line" "starts" "[I", Cond.fieldLink RX3 32 "OneTime$Line" "stays" "[I", Cond.methodLink RX3 38 yX3_hasStation, Cond.instanceMethod yX3_hasStation, Cond.selects RX3 yX3_hasStation yX3_hasStation, Cond.code yX3_hasStation cX3_hasStation 2 (some .boolean), Cond.methodLink RX3 62 yX3_lengthOf, Cond.instanceMethod yX3_lengthOf, Cond.selects RX3 yX3_lengthOf yX3_lengthOf, Cond.code yX3_lengthOf cX3_lengthOf 2 (some .int)]
def wsX0_stepsApart : List Cond := .code yX0_stepsApart cX0_stepsApart 5 (some .int) :: ((wsX0_stepsApart_r1 ++ wsX0_stepsApart_r2) ++ wsX30)
def wsX0_keep : List Cond := .code yX0_keep cX0_keep 3 none :: ([.fieldLink RX0 30 "OneTime$DelaySearch" "bestCost" "I", .fieldLink RX0 26 "OneTime$DelaySearch" "trains" "I", .fieldLink RX0 23 "OneTime$DelaySearch" "best" "[I", .fieldLink RX0 19 "OneTime$DelaySearch" "steps" "[I"] ++ wsX00)
def wsX0_costOf : List Cond := .code yX0_costOf cX0_costOf 1 (some .int) :: ([])
def wsJ6_bitCount_0f7a4 : List Cond := .code yJ6_bitCount_0f7a4 cJ6_bitCount_0f7a4 1 (some .int) :: ([.constant RJ6 265 (1431655765), .constant RJ6 266 (858993459), .constant RJ6 267 (252645135)])
def wsX0_leastStep : List Cond := .code yX0_leastStep cX0_leastStep 1 (some .int) :: ([.methodLink RX0 57 yJ6_bitCount_0f7a4, .static yJ6_bitCount_0f7a4, .initialized RJ6, .code yJ6_bitCount_0f7a4 cJ6_bitCount_0f7a4 1 (some .int), .constant RJ6 265 (1431655765), .constant RJ6 266 (858993459), .constant RJ6 267 (252645135)])
def wsX0_costOfOthers : List Cond := .code yX0_costOfOthers cX0_costOfOthers 6 (some .int) :: ([.fieldLink RX0 26 "OneTime$DelaySearch" "trains" "I", .fieldLink RX0 16 "OneTime$DelaySearch" "open" "[[I", .fieldLink RX0 13 "OneTime$DelaySearch" "apart" "[[I", .methodLink RX0 73 yX0_leastStep, .static yX0_leastStep, .initialized RX0, .code yX0_leastStep cX0_leastStep 1 (some .int), .methodLink RX0 57 yJ6_bitCount_0f7a4, .static yJ6_bitCount_0f7a4, .initialized RJ6, .code yJ6_bitCount_0f7a4 cJ6_bitCount_0f7a4 1 (some .int), .constant RJ6 265 (1431655765), .constant RJ6 266 (858993459), .constant RJ6 267 (252645135), .methodLink RX0 67 yX0_costOf, .static yX0_costOf, .code yX0_costOf cX0_costOf 1 (some .int)] ++ wsX00)
def wsX0_place_r1 : List Cond := [Cond.fieldLink RX0 26 "OneTime$DelaySearch" "trains" "I", Cond.fieldLink RX0 16 "OneTime$DelaySearch" "open" "[[I", Cond.fieldLink RX0 19 "OneTime$DelaySearch" "steps" "[I", Cond.fieldLink RX0 30 "OneTime$DelaySearch" "bestCost" "I", Cond.methodLink RX0 63 yX0_keep, Cond.instanceMethod yX0_keep, Cond.selects RX0 yX0_keep yX0_keep, Cond.initialized RX0, Cond.code yX0_keep cX0_keep 3 none, Cond.fieldLink RX0 23 "OneTime$DelaySearch" "best" "[I", Cond.methodLink RX0 67 yX0_costOf, Cond.static yX0_costOf, Cond.code yX0_costOf cX0_costOf 1 (some .int), Cond.methodLink RX0 70 yX0_costOfOthers, Cond.instanceMethod yX0_costOfOthers, Cond.selects RX0 yX0_costOfOthers yX0_costOfOthers, Cond.code yX0_costOfOthers cX0_costOfOthers 6 (some .int), Cond.fieldLink RX0 13 "OneTime$DelaySearch" "apart" "[[I", Cond.methodLink RX0 73 yX0_leastStep, Cond.static yX0_leastStep, Cond.code yX0_leastStep cX0_leastStep 1 (some .int), Cond.methodLink RX0 57 yJ6_bitCount_0f7a4, Cond.static yJ6_bitCount_0f7a4, Cond.initialized RJ6]
def wsX0_place_r2 : List Cond := [Cond.code yJ6_bitCount_0f7a4 cJ6_bitCount_0f7a4 1 (some .int), Cond.constant RJ6 265 (1431655765), Cond.constant RJ6 266 (858993459), Cond.constant RJ6 267 (252645135), Cond.methodLink RX0 46 yX0_place, Cond.instanceMethod yX0_place, Cond.selects RX0 yX0_place yX0_place]
def wsX0_place : List Cond := .code yX0_place cX0_place 5 none :: ((wsX0_place_r1 ++ wsX0_place_r2) ++ wsX00)
def wsX0_settleBest_r1 : List Cond := [Cond.fieldLink RX0 33 "OneTime$Line" "trains" "I", Cond.methodLink RX0 36 Lib.Math.min.name, Cond.static Lib.Math.min.name, Cond.initialized "java/lang/Math", Cond.code Lib.Math.min.name Lib.Math.min.code 2 (some .int), Cond.fieldLink RX0 26 "OneTime$DelaySearch" "trains" "I", Cond.fieldLink RX0 30 "OneTime$DelaySearch" "bestCost" "I", Cond.fieldLink RX0 16 "OneTime$DelaySearch" "open" "[[I", Cond.fieldLink RX0 13 "OneTime$DelaySearch" "apart" "[[I", Cond.fieldLink RX0 50 "OneTime$Line" "delays" "[I", Cond.fieldLink RX0 23 "OneTime$DelaySearch" "best" "[I", Cond.methodLink RX0 42 yX0_stepsApart, Cond.static yX0_stepsApart, Cond.initialized RX0, Cond.code yX0_stepsApart cX0_stepsApart 5 (some .int), Cond.methodLink RX0 53 yX3_firstRunMeetingWith, Cond.instanceMethod yX3_firstRunMeetingWith, Cond.selects RX3 yX3_firstRunMeetingWith yX3_firstRunMeetingWith, Cond.initialized RX3, Cond.code yX3_firstRunMeetingWith cX3_firstRunMeetingWith 6 (some .int), Cond.fieldLink RX3 9 "OneTime$Line" "stations" "I", Cond.methodLink RX3 56 Lib.Math.abs.name, Cond.static Lib.Math.abs.name, Cond.code Lib.Math.abs.name Lib.Math.abs.code 1 (some .int)]
def wsX0_settleBest_r2 : List Cond := [Cond.methodLink RX3 53 yX3_plannedOnRun, Cond.instanceMethod yX3_plannedOnRun, Cond.selects RX3 yX3_plannedOnRun yX3_plannedOnRun, Cond.code yX3_plannedOnRun cX3_plannedOnRun 3 (some .int), Cond.fieldLink RX3 25 "OneTime$Line" "ups" "[Z", Cond.methodLink RX3 42 yX3_hasTrain, Cond.instanceMethod yX3_hasTrain, Cond.selects RX3 yX3_hasTrain yX3_hasTrain, Cond.code yX3_hasTrain cX3_hasTrain 2 (some .boolean), Cond.fieldLink RX3 22 "OneTime$Line" "trains" "I", Cond.methodLink RX3 45 yX3_plannedAt, Cond.instanceMethod yX3_plannedAt, Cond.selects RX3 yX3_plannedAt yX3_plannedAt, Cond.code yX3_plannedAt cX3_plannedAt 7 (some .int), Cond.fieldLink RX3 19 "OneTime$Line" "ways" "[I", Cond.fieldLink RX3 29 "OneTime$Line" "starts" "[I", Cond.fieldLink RX3 32 "OneTime$Line" "stays" "[I", Cond.methodLink RX3 38 yX3_hasStation, Cond.instanceMethod yX3_hasStation, Cond.selects RX3 yX3_hasStation yX3_hasStation, Cond.code yX3_hasStation cX3_hasStation 2 (some .boolean), Cond.methodLink RX3 62 yX3_lengthOf, Cond.instanceMethod yX3_lengthOf, Cond.selects RX3 yX3_lengthOf yX3_lengthOf]
def wsX0_settleBest_r3 : List Cond := [Cond.code yX3_lengthOf cX3_lengthOf 2 (some .int), Cond.methodLink RX0 46 yX0_place, Cond.instanceMethod yX0_place, Cond.selects RX0 yX0_place yX0_place, Cond.code yX0_place cX0_place 5 none, Cond.fieldLink RX0 19 "OneTime$DelaySearch" "steps" "[I", Cond.methodLink RX0 63 yX0_keep, Cond.instanceMethod yX0_keep, Cond.selects RX0 yX0_keep yX0_keep, Cond.code yX0_keep cX0_keep 3 none, Cond.methodLink RX0 67 yX0_costOf, Cond.static yX0_costOf, Cond.code yX0_costOf cX0_costOf 1 (some .int), Cond.methodLink RX0 70 yX0_costOfOthers, Cond.instanceMethod yX0_costOfOthers, Cond.selects RX0 yX0_costOfOthers yX0_costOfOthers, Cond.code yX0_costOfOthers cX0_costOfOthers 6 (some .int), Cond.methodLink RX0 73 yX0_leastStep, Cond.static yX0_leastStep, Cond.code yX0_leastStep cX0_leastStep 1 (some .int), Cond.methodLink RX0 57 yJ6_bitCount_0f7a4, Cond.static yJ6_bitCount_0f7a4, Cond.initialized RJ6, Cond.code yJ6_bitCount_0f7a4 cJ6_bitCount_0f7a4 1 (some .int)]
def wsX0_settleBest_r4 : List Cond := [Cond.constant RJ6 265 (1431655765), Cond.constant RJ6 266 (858993459), Cond.constant RJ6 267 (252645135)]
def wsX0_settleBest : List Cond := .code yX0_settleBest cX0_settleBest 4 (some .int) :: ((wsX0_settleBest_r1 ++ (wsX0_settleBest_r2 ++ (wsX0_settleBest_r3 ++ wsX0_settleBest_r4))) ++ wsX30 ++ wsX00)
def wsX1_init : List Cond := .code yX1_init cX1_init 1 none :: ([.methodLink RX1 3 objectInit, .instanceMethod objectInit, .code objectInit ⟨#[0xb1]⟩ 1 none, .arrayClass .int, .fieldLink RX1 9 "OneTime$LawReader" "times" "[I", .fieldLink RX1 15 "OneTime$LawReader" "mores" "[I", .fieldLink RX1 18 "OneTime$LawReader" "state" "I", .fieldLink RX1 22 "OneTime$LawReader" "matter" "I", .fieldLink RX1 25 "OneTime$LawReader" "sense" "I", .fieldLink RX1 28 "OneTime$LawReader" "digits" "I"] ++ wsX10)
def wsX7_signAt : List Cond := .code yX7_signAt cX7_signAt 2 (some .int) :: ([.fieldLink RX7 15 "OneTime$Tape" "size" "I", .fieldLink RX7 9 "OneTime$Tape" "signs" "[I"] ++ wsX70)
def wsX1_takeMatter : List Cond := .code yX1_takeMatter cX1_takeMatter 2 (some .boolean) :: ([.fieldLink RX1 22 "OneTime$LawReader" "matter" "I", .fieldLink RX1 18 "OneTime$LawReader" "state" "I"] ++ wsX10)
def wsX1_takeMark : List Cond := .code yX1_takeMark cX1_takeMark 4 (some .boolean) :: ([.fieldLink RX1 18 "OneTime$LawReader" "state" "I"] ++ wsX10)
def wsX10_isMatter : List Cond := .code yX10_isMatter cX10_isMatter 1 (some .boolean) :: ([])
def wsX1_takeTime : List Cond := .code yX1_takeTime cX1_takeTime 2 (some .boolean) :: ([.fieldLink RX1 22 "OneTime$LawReader" "matter" "I", .fieldLink RX1 9 "OneTime$LawReader" "times" "[I", .fieldLink RX1 15 "OneTime$LawReader" "mores" "[I", .fieldLink RX1 18 "OneTime$LawReader" "state" "I", .static yX10_isMatter, .initialized RX10, .code yX10_isMatter cX10_isMatter 1 (some .boolean)] ++ wsX10)
def wsX1_takeDigit : List Cond := .code yX1_takeDigit cX1_takeDigit 2 (some .boolean) :: ([.fieldLink RX1 28 "OneTime$LawReader" "digits" "I", .fieldLink RX1 22 "OneTime$LawReader" "matter" "I", .fieldLink RX1 15 "OneTime$LawReader" "mores" "[I", .fieldLink RX1 25 "OneTime$LawReader" "sense" "I", .fieldLink RX1 18 "OneTime$LawReader" "state" "I", .static yX10_isMatter, .initialized RX10, .code yX10_isMatter cX10_isMatter 1 (some .boolean)] ++ wsX10)
def wsX1_takeSense : List Cond := .code yX1_takeSense cX1_takeSense 2 (some .boolean) :: ([.fieldLink RX1 25 "OneTime$LawReader" "sense" "I", .fieldLink RX1 28 "OneTime$LawReader" "digits" "I", .fieldLink RX1 18 "OneTime$LawReader" "state" "I"] ++ wsX10)
def wsX1_takeSign_r1 : List Cond := [Cond.fieldLink RX1 18 "OneTime$LawReader" "state" "I", Cond.methodLink RX1 50 yX1_takeMatter, Cond.instanceMethod yX1_takeMatter, Cond.selects RX1 yX1_takeMatter yX1_takeMatter, Cond.initialized RX1, Cond.code yX1_takeMatter cX1_takeMatter 2 (some .boolean), Cond.fieldLink RX1 22 "OneTime$LawReader" "matter" "I", Cond.methodLink RX1 53 yX1_takeMark, Cond.instanceMethod yX1_takeMark, Cond.selects RX1 yX1_takeMark yX1_takeMark, Cond.code yX1_takeMark cX1_takeMark 4 (some .boolean), Cond.methodLink RX1 57 yX1_takeTime, Cond.instanceMethod yX1_takeTime, Cond.selects RX1 yX1_takeTime yX1_takeTime, Cond.code yX1_takeTime cX1_takeTime 2 (some .boolean), Cond.fieldLink RX1 9 "OneTime$LawReader" "times" "[I", Cond.fieldLink RX1 15 "OneTime$LawReader" "mores" "[I", Cond.static yX10_isMatter, Cond.initialized RX10, Cond.code yX10_isMatter cX10_isMatter 1 (some .boolean), Cond.methodLink RX1 60 yX1_takeDigit, Cond.instanceMethod yX1_takeDigit, Cond.selects RX1 yX1_takeDigit yX1_takeDigit, Cond.code yX1_takeDigit cX1_takeDigit 2 (some .boolean)]
def wsX1_takeSign_r2 : List Cond := [Cond.fieldLink RX1 28 "OneTime$LawReader" "digits" "I", Cond.fieldLink RX1 25 "OneTime$LawReader" "sense" "I", Cond.methodLink RX1 63 yX1_takeSense, Cond.instanceMethod yX1_takeSense, Cond.selects RX1 yX1_takeSense yX1_takeSense, Cond.code yX1_takeSense cX1_takeSense 2 (some .boolean)]
def wsX1_takeSign : List Cond := .code yX1_takeSign cX1_takeSign 2 (some .boolean) :: ((wsX1_takeSign_r1 ++ wsX1_takeSign_r2) ++ wsX10)
def wsX1_take_r1 : List Cond := [Cond.fieldLink RX1 18 "OneTime$LawReader" "state" "I", Cond.fieldLink RX1 9 "OneTime$LawReader" "times" "[I", Cond.fieldLink RX1 15 "OneTime$LawReader" "mores" "[I", Cond.fieldLink RX1 31 "OneTime$Tape" "size" "I", Cond.methodLink RX1 36 Lib.Math.min.name, Cond.static Lib.Math.min.name, Cond.initialized "java/lang/Math", Cond.code Lib.Math.min.name Lib.Math.min.code 2 (some .int), Cond.methodLink RX1 42 yX7_signAt, Cond.instanceMethod yX7_signAt, Cond.selects RX7 yX7_signAt yX7_signAt, Cond.initialized RX7, Cond.code yX7_signAt cX7_signAt 2 (some .int), Cond.fieldLink RX7 15 "OneTime$Tape" "size" "I", Cond.fieldLink RX7 9 "OneTime$Tape" "signs" "[I", Cond.methodLink RX1 46 yX1_takeSign, Cond.instanceMethod yX1_takeSign, Cond.selects RX1 yX1_takeSign yX1_takeSign, Cond.initialized RX1, Cond.code yX1_takeSign cX1_takeSign 2 (some .boolean), Cond.methodLink RX1 50 yX1_takeMatter, Cond.instanceMethod yX1_takeMatter, Cond.selects RX1 yX1_takeMatter yX1_takeMatter, Cond.code yX1_takeMatter cX1_takeMatter 2 (some .boolean)]
def wsX1_take_r2 : List Cond := [Cond.fieldLink RX1 22 "OneTime$LawReader" "matter" "I", Cond.methodLink RX1 53 yX1_takeMark, Cond.instanceMethod yX1_takeMark, Cond.selects RX1 yX1_takeMark yX1_takeMark, Cond.code yX1_takeMark cX1_takeMark 4 (some .boolean), Cond.methodLink RX1 57 yX1_takeTime, Cond.instanceMethod yX1_takeTime, Cond.selects RX1 yX1_takeTime yX1_takeTime, Cond.code yX1_takeTime cX1_takeTime 2 (some .boolean), Cond.static yX10_isMatter, Cond.initialized RX10, Cond.code yX10_isMatter cX10_isMatter 1 (some .boolean), Cond.methodLink RX1 60 yX1_takeDigit, Cond.instanceMethod yX1_takeDigit, Cond.selects RX1 yX1_takeDigit yX1_takeDigit, Cond.code yX1_takeDigit cX1_takeDigit 2 (some .boolean), Cond.fieldLink RX1 28 "OneTime$LawReader" "digits" "I", Cond.fieldLink RX1 25 "OneTime$LawReader" "sense" "I", Cond.methodLink RX1 63 yX1_takeSense, Cond.instanceMethod yX1_takeSense, Cond.selects RX1 yX1_takeSense yX1_takeSense, Cond.code yX1_takeSense cX1_takeSense 2 (some .boolean)]
def wsX1_take : List Cond := .code yX1_take cX1_take 4 (some .int) :: ((wsX1_take_r1 ++ wsX1_take_r2) ++ wsX10 ++ wsX70)
def wsX6_init : List Cond := .code yX6_init cX6_init 2 none :: ([.methodLink RX6 3 objectInit, .instanceMethod objectInit, .code objectInit ⟨#[0xb1]⟩ 1 none, .fieldLink RX6 9 "OneTime$Since" "size" "I", .methodLink RX6 15 Lib.Math.max.name, .static Lib.Math.max.name, .initialized "java/lang/Math", .code Lib.Math.max.name Lib.Math.max.code 2 (some .int), .arrayClass .int, .fieldLink RX6 21 "OneTime$Since" "ofTowns" "[I", .fieldLink RX6 25 "OneTime$Since" "fromDays" "[I"] ++ wsX60)
def wsX2_init_r1 : List Cond := [Cond.methodLink RX2 3 objectInit, Cond.instanceMethod objectInit, Cond.code objectInit ⟨#[0xb1]⟩ 1 none, Cond.classLink RX2 9 RX6, Cond.instantiable RX6 3, Cond.initialized RX6, Cond.fieldLink RX2 14 "OneTime$Laws" "since" "LOneTime$Since;", Cond.classLink RX2 20 RX1, Cond.instantiable RX1 6, Cond.initialized RX1, Cond.fieldLink RX2 23 "OneTime$Laws" "reader" "LOneTime$LawReader;", Cond.arrayClass .int, Cond.fieldLink RX2 27 "OneTime$Laws" "times" "[I", Cond.fieldLink RX2 31 "OneTime$Laws" "mores" "[I", Cond.methodLink RX2 11 yX6_init, Cond.instanceMethod yX6_init, Cond.code yX6_init cX6_init 2 none, Cond.methodLink RX6 3 objectInit, Cond.fieldLink RX6 9 "OneTime$Since" "size" "I", Cond.methodLink RX6 15 Lib.Math.max.name, Cond.static Lib.Math.max.name, Cond.initialized "java/lang/Math", Cond.code Lib.Math.max.name Lib.Math.max.code 2 (some .int), Cond.fieldLink RX6 21 "OneTime$Since" "ofTowns" "[I"]
def wsX2_init_r2 : List Cond := [Cond.fieldLink RX6 25 "OneTime$Since" "fromDays" "[I", Cond.instanceMethod yX1_init, Cond.code yX1_init cX1_init 1 none, Cond.methodLink RX1 3 objectInit, Cond.fieldLink RX1 9 "OneTime$LawReader" "times" "[I", Cond.fieldLink RX1 15 "OneTime$LawReader" "mores" "[I", Cond.fieldLink RX1 18 "OneTime$LawReader" "state" "I", Cond.fieldLink RX1 22 "OneTime$LawReader" "matter" "I", Cond.fieldLink RX1 25 "OneTime$LawReader" "sense" "I", Cond.fieldLink RX1 28 "OneTime$LawReader" "digits" "I"]
def wsX2_init : List Cond := .code yX2_init cX2_init 1 none :: ((wsX2_init_r1 ++ wsX2_init_r2) ++ wsX60 ++ wsX20 ++ wsX10)
def wsX6_isFull : List Cond := .code yX6_isFull cX6_isFull 1 (some .boolean) :: ([.fieldLink RX6 9 "OneTime$Since" "size" "I", .fieldLink RX6 21 "OneTime$Since" "ofTowns" "[I"] ++ wsX60)
def wsX2_isFull : List Cond := .code yX2_isFull cX2_isFull 1 (some .boolean) :: ([.fieldLink RX2 14 "OneTime$Laws" "since" "LOneTime$Since;", .methodLink RX2 34 yX6_isFull, .instanceMethod yX6_isFull, .selects RX6 yX6_isFull yX6_isFull, .initialized RX6, .code yX6_isFull cX6_isFull 1 (some .boolean), .fieldLink RX6 9 "OneTime$Since" "size" "I", .fieldLink RX6 21 "OneTime$Since" "ofTowns" "[I"] ++ wsX20 ++ wsX60)
def wsX6_add : List Cond := .code yX6_add cX6_add 3 none :: ([.fieldLink RX6 9 "OneTime$Since" "size" "I", .fieldLink RX6 21 "OneTime$Since" "ofTowns" "[I", .fieldLink RX6 25 "OneTime$Since" "fromDays" "[I"] ++ wsX60)
def wsX2_tell_r1 : List Cond := [Cond.fieldLink RX2 23 "OneTime$Laws" "reader" "LOneTime$LawReader;", Cond.fieldLink RX2 14 "OneTime$Laws" "since" "LOneTime$Since;", Cond.fieldLink RX2 43 "OneTime$Since" "size" "I", Cond.fieldLink RX2 27 "OneTime$Laws" "times" "[I", Cond.fieldLink RX2 47 "OneTime$LawReader" "times" "[I", Cond.fieldLink RX2 31 "OneTime$Laws" "mores" "[I", Cond.fieldLink RX2 48 "OneTime$LawReader" "mores" "[I", Cond.methodLink RX2 38 yX2_isFull, Cond.instanceMethod yX2_isFull, Cond.selects RX2 yX2_isFull yX2_isFull, Cond.initialized RX2, Cond.code yX2_isFull cX2_isFull 1 (some .boolean), Cond.methodLink RX2 34 yX6_isFull, Cond.instanceMethod yX6_isFull, Cond.selects RX6 yX6_isFull yX6_isFull, Cond.initialized RX6, Cond.code yX6_isFull cX6_isFull 1 (some .boolean), Cond.fieldLink RX6 9 "OneTime$Since" "size" "I", Cond.fieldLink RX6 21 "OneTime$Since" "ofTowns" "[I", Cond.methodLink RX2 39 yX1_take, Cond.instanceMethod yX1_take, Cond.selects RX1 yX1_take yX1_take, Cond.initialized RX1, Cond.code yX1_take cX1_take 4 (some .int)]
def wsX2_tell_r2 : List Cond := [Cond.fieldLink RX1 18 "OneTime$LawReader" "state" "I", Cond.fieldLink RX1 9 "OneTime$LawReader" "times" "[I", Cond.fieldLink RX1 15 "OneTime$LawReader" "mores" "[I", Cond.fieldLink RX1 31 "OneTime$Tape" "size" "I", Cond.methodLink RX1 36 Lib.Math.min.name, Cond.static Lib.Math.min.name, Cond.initialized "java/lang/Math", Cond.code Lib.Math.min.name Lib.Math.min.code 2 (some .int), Cond.methodLink RX1 42 yX7_signAt, Cond.instanceMethod yX7_signAt, Cond.selects RX7 yX7_signAt yX7_signAt, Cond.initialized RX7, Cond.code yX7_signAt cX7_signAt 2 (some .int), Cond.fieldLink RX7 15 "OneTime$Tape" "size" "I", Cond.fieldLink RX7 9 "OneTime$Tape" "signs" "[I", Cond.methodLink RX1 46 yX1_takeSign, Cond.instanceMethod yX1_takeSign, Cond.selects RX1 yX1_takeSign yX1_takeSign, Cond.code yX1_takeSign cX1_takeSign 2 (some .boolean), Cond.methodLink RX1 50 yX1_takeMatter, Cond.instanceMethod yX1_takeMatter, Cond.selects RX1 yX1_takeMatter yX1_takeMatter, Cond.code yX1_takeMatter cX1_takeMatter 2 (some .boolean), Cond.fieldLink RX1 22 "OneTime$LawReader" "matter" "I"]
def wsX2_tell_r3 : List Cond := [Cond.methodLink RX1 53 yX1_takeMark, Cond.instanceMethod yX1_takeMark, Cond.selects RX1 yX1_takeMark yX1_takeMark, Cond.code yX1_takeMark cX1_takeMark 4 (some .boolean), Cond.methodLink RX1 57 yX1_takeTime, Cond.instanceMethod yX1_takeTime, Cond.selects RX1 yX1_takeTime yX1_takeTime, Cond.code yX1_takeTime cX1_takeTime 2 (some .boolean), Cond.static yX10_isMatter, Cond.initialized RX10, Cond.code yX10_isMatter cX10_isMatter 1 (some .boolean), Cond.methodLink RX1 60 yX1_takeDigit, Cond.instanceMethod yX1_takeDigit, Cond.selects RX1 yX1_takeDigit yX1_takeDigit, Cond.code yX1_takeDigit cX1_takeDigit 2 (some .boolean), Cond.fieldLink RX1 28 "OneTime$LawReader" "digits" "I", Cond.fieldLink RX1 25 "OneTime$LawReader" "sense" "I", Cond.methodLink RX1 63 yX1_takeSense, Cond.instanceMethod yX1_takeSense, Cond.selects RX1 yX1_takeSense yX1_takeSense, Cond.code yX1_takeSense cX1_takeSense 2 (some .boolean), Cond.methodLink RX2 49 yX6_add, Cond.instanceMethod yX6_add, Cond.selects RX6 yX6_add yX6_add]
def wsX2_tell_r4 : List Cond := [Cond.code yX6_add cX6_add 3 none, Cond.fieldLink RX6 25 "OneTime$Since" "fromDays" "[I"]
def wsX2_tell : List Cond := .code yX2_tell cX2_tell 7 (some .int) :: ((wsX2_tell_r1 ++ (wsX2_tell_r2 ++ (wsX2_tell_r3 ++ wsX2_tell_r4))) ++ wsX20 ++ wsX60 ++ wsX10 ++ wsX70)
def wsX2_has : List Cond := .code yX2_has cX2_has 3 (some .boolean) :: ([.fieldLink RX2 14 "OneTime$Laws" "since" "LOneTime$Since;", .fieldLink RX2 43 "OneTime$Since" "size" "I", .static yX10_isMatter, .initialized RX10, .code yX10_isMatter cX10_isMatter 1 (some .boolean)] ++ wsX20 ++ wsX60)
def wsX2_timeOf : List Cond := .code yX2_timeOf cX2_timeOf 3 (some .int) :: ([.fieldLink RX2 27 "OneTime$Laws" "times" "[I", .methodLink RX2 57 yX2_has, .instanceMethod yX2_has, .selects RX2 yX2_has yX2_has, .initialized RX2, .code yX2_has cX2_has 3 (some .boolean), .fieldLink RX2 14 "OneTime$Laws" "since" "LOneTime$Since;", .fieldLink RX2 43 "OneTime$Since" "size" "I", .static yX10_isMatter, .initialized RX10, .code yX10_isMatter cX10_isMatter 1 (some .boolean)] ++ wsX20 ++ wsX60)
def wsX2_moreOf : List Cond := .code yX2_moreOf cX2_moreOf 3 (some .int) :: ([.fieldLink RX2 31 "OneTime$Laws" "mores" "[I", .methodLink RX2 57 yX2_has, .instanceMethod yX2_has, .selects RX2 yX2_has yX2_has, .initialized RX2, .code yX2_has cX2_has 3 (some .boolean), .fieldLink RX2 14 "OneTime$Laws" "since" "LOneTime$Since;", .fieldLink RX2 43 "OneTime$Since" "size" "I", .static yX10_isMatter, .initialized RX10, .code yX10_isMatter cX10_isMatter 1 (some .boolean)] ++ wsX20 ++ wsX60)
def wsX3_init : List Cond := .code yX3_init cX3_init 1 none :: ([.methodLink RX3 3 objectInit, .instanceMethod objectInit, .code objectInit ⟨#[0xb1]⟩ 1 none, .fieldLink RX3 9 "OneTime$Line" "stations" "I", .arrayClass .int, .fieldLink RX3 15 "OneTime$Line" "ofTowns" "[I", .fieldLink RX3 19 "OneTime$Line" "ways" "[I", .fieldLink RX3 22 "OneTime$Line" "trains" "I", .arrayClass .boolean, .fieldLink RX3 25 "OneTime$Line" "ups" "[Z", .fieldLink RX3 29 "OneTime$Line" "starts" "[I", .fieldLink RX3 32 "OneTime$Line" "stays" "[I", .fieldLink RX3 35 "OneTime$Line" "delays" "[I"] ++ wsX30)
def wsX3_build : List Cond := .code yX3_build cX3_build 3 (some .int) :: ([.fieldLink RX3 9 "OneTime$Line" "stations" "I", .fieldLink RX3 22 "OneTime$Line" "trains" "I", .fieldLink RX3 19 "OneTime$Line" "ways" "[I", .fieldLink RX3 15 "OneTime$Line" "ofTowns" "[I"] ++ wsX30)
def wsX3_takesTrains : List Cond := .code yX3_takesTrains cX3_takesTrains 1 (some .boolean) :: ([.fieldLink RX3 9 "OneTime$Line" "stations" "I", .fieldLink RX3 22 "OneTime$Line" "trains" "I"] ++ wsX30)
def wsX3_firstTown : List Cond := .code yX3_firstTown cX3_firstTown 3 (some .int) :: ([.fieldLink RX3 9 "OneTime$Line" "stations" "I", .fieldLink RX3 15 "OneTime$Line" "ofTowns" "[I", .methodLink RX3 38 yX3_hasStation, .instanceMethod yX3_hasStation, .selects RX3 yX3_hasStation yX3_hasStation, .initialized RX3, .code yX3_hasStation cX3_hasStation 2 (some .boolean)] ++ wsX30)
def wsX3_addTrain : List Cond := .code yX3_addTrain cX3_addTrain 4 (some .int) :: ([.fieldLink RX3 22 "OneTime$Line" "trains" "I", .fieldLink RX3 25 "OneTime$Line" "ups" "[Z", .fieldLink RX3 29 "OneTime$Line" "starts" "[I", .fieldLink RX3 32 "OneTime$Line" "stays" "[I", .fieldLink RX3 35 "OneTime$Line" "delays" "[I"] ++ wsX30)
def wsX3_clear : List Cond := .code yX3_clear cX3_clear 2 (some .int) :: ([.fieldLink RX3 22 "OneTime$Line" "trains" "I", .fieldLink RX3 9 "OneTime$Line" "stations" "I"] ++ wsX30)
def wsX3_firstRunMeeting_r1 : List Cond := [Cond.fieldLink RX3 35 "OneTime$Line" "delays" "[I", Cond.methodLink RX3 42 yX3_hasTrain, Cond.instanceMethod yX3_hasTrain, Cond.selects RX3 yX3_hasTrain yX3_hasTrain, Cond.initialized RX3, Cond.code yX3_hasTrain cX3_hasTrain 2 (some .boolean), Cond.fieldLink RX3 22 "OneTime$Line" "trains" "I", Cond.methodLink RX3 49 yX3_firstRunMeetingWith, Cond.instanceMethod yX3_firstRunMeetingWith, Cond.selects RX3 yX3_firstRunMeetingWith yX3_firstRunMeetingWith, Cond.code yX3_firstRunMeetingWith cX3_firstRunMeetingWith 6 (some .int), Cond.fieldLink RX3 9 "OneTime$Line" "stations" "I", Cond.methodLink RX3 56 Lib.Math.abs.name, Cond.static Lib.Math.abs.name, Cond.initialized "java/lang/Math", Cond.code Lib.Math.abs.name Lib.Math.abs.code 1 (some .int), Cond.methodLink RX3 53 yX3_plannedOnRun, Cond.instanceMethod yX3_plannedOnRun, Cond.selects RX3 yX3_plannedOnRun yX3_plannedOnRun, Cond.code yX3_plannedOnRun cX3_plannedOnRun 3 (some .int), Cond.fieldLink RX3 25 "OneTime$Line" "ups" "[Z", Cond.methodLink RX3 45 yX3_plannedAt, Cond.instanceMethod yX3_plannedAt, Cond.selects RX3 yX3_plannedAt yX3_plannedAt]
def wsX3_firstRunMeeting_r2 : List Cond := [Cond.code yX3_plannedAt cX3_plannedAt 7 (some .int), Cond.fieldLink RX3 19 "OneTime$Line" "ways" "[I", Cond.fieldLink RX3 29 "OneTime$Line" "starts" "[I", Cond.fieldLink RX3 32 "OneTime$Line" "stays" "[I", Cond.methodLink RX3 38 yX3_hasStation, Cond.instanceMethod yX3_hasStation, Cond.selects RX3 yX3_hasStation yX3_hasStation, Cond.code yX3_hasStation cX3_hasStation 2 (some .boolean), Cond.methodLink RX3 62 yX3_lengthOf, Cond.instanceMethod yX3_lengthOf, Cond.selects RX3 yX3_lengthOf yX3_lengthOf, Cond.code yX3_lengthOf cX3_lengthOf 2 (some .int)]
def wsX3_firstRunMeeting : List Cond := .code yX3_firstRunMeeting cX3_firstRunMeeting 3 (some .int) :: ((wsX3_firstRunMeeting_r1 ++ wsX3_firstRunMeeting_r2) ++ wsX30)
def wsX4_init : List Cond := .code yX4_init cX4_init 1 none :: ([.methodLink RX4 3 objectInit, .instanceMethod objectInit, .code objectInit ⟨#[0xb1]⟩ 1 none, .arrayClass .int, .fieldLink RX4 9 "OneTime$RoundSearch" "order" "[I", .fieldLink RX4 15 "OneTime$RoundSearch" "best" "[I", .fieldLink RX4 18 "OneTime$RoundSearch" "bestWorst" "I", .fieldLink RX4 22 "OneTime$RoundSearch" "bestEnd" "I"] ++ wsX40)
def wsX4_keep : List Cond := .code yX4_keep cX4_keep 5 none :: ([.fieldLink RX4 18 "OneTime$RoundSearch" "bestWorst" "I", .fieldLink RX4 22 "OneTime$RoundSearch" "bestEnd" "I", .fieldLink RX4 15 "OneTime$RoundSearch" "best" "[I", .fieldLink RX4 9 "OneTime$RoundSearch" "order" "[I"] ++ wsX40)
def wsX8_has : List Cond := .code yX8_has cX8_has 2 (some .boolean) :: ([.fieldLink RX8 9 "OneTime$Towers" "size" "I"] ++ wsX80)
def wsX8_sunOf : List Cond := .code yX8_sunOf cX8_sunOf 2 (some .int) :: ([.fieldLink RX8 15 "OneTime$Towers" "suns" "[I", .methodLink RX8 25 yX8_has, .instanceMethod yX8_has, .selects RX8 yX8_has yX8_has, .initialized RX8, .code yX8_has cX8_has 2 (some .boolean), .fieldLink RX8 9 "OneTime$Towers" "size" "I"] ++ wsX80)
def wsX4_minutesBetween : List Cond := .code yX4_minutesBetween cX4_minutesBetween 2 (some .int) :: ([.methodLink RX4 62 Lib.Math.abs.name, .static Lib.Math.abs.name, .initialized "java/lang/Math", .code Lib.Math.abs.name Lib.Math.abs.code 1 (some .int)])
def wsX8_errorAt : List Cond := .code yX8_errorAt cX8_errorAt 3 (some .int) :: ([.fieldLink RX8 22 "OneTime$Towers" "drifts" "[I", .fieldLink RX8 19 "OneTime$Towers" "setMinutes" "[I", .methodLink RX8 25 yX8_has, .instanceMethod yX8_has, .selects RX8 yX8_has yX8_has, .initialized RX8, .code yX8_has cX8_has 2 (some .boolean), .fieldLink RX8 9 "OneTime$Towers" "size" "I"] ++ wsX80)
def wsX4_sizeOfError : List Cond := .code yX4_sizeOfError cX4_sizeOfError 3 (some .int) :: ([.methodLink RX4 62 Lib.Math.abs.name, .static Lib.Math.abs.name, .initialized "java/lang/Math", .code Lib.Math.abs.name Lib.Math.abs.code 1 (some .int), .methodLink RX4 65 yX8_errorAt, .instanceMethod yX8_errorAt, .selects RX8 yX8_errorAt yX8_errorAt, .initialized RX8, .code yX8_errorAt cX8_errorAt 3 (some .int), .fieldLink RX8 22 "OneTime$Towers" "drifts" "[I", .fieldLink RX8 19 "OneTime$Towers" "setMinutes" "[I", .methodLink RX8 25 yX8_has, .instanceMethod yX8_has, .selects RX8 yX8_has yX8_has, .code yX8_has cX8_has 2 (some .boolean), .fieldLink RX8 9 "OneTime$Towers" "size" "I"] ++ wsX80)
def wsX4_canBeBetter_r1 : List Cond := [Cond.fieldLink RX4 28 "OneTime$Towers" "size" "I", Cond.methodLink RX4 68 Lib.Math.min.name, Cond.static Lib.Math.min.name, Cond.initialized "java/lang/Math", Cond.code Lib.Math.min.name Lib.Math.min.code 2 (some .int), Cond.methodLink RX4 53 Lib.Math.max.name, Cond.static Lib.Math.max.name, Cond.code Lib.Math.max.name Lib.Math.max.code 2 (some .int), Cond.fieldLink RX4 18 "OneTime$RoundSearch" "bestWorst" "I", Cond.fieldLink RX4 22 "OneTime$RoundSearch" "bestEnd" "I", Cond.methodLink RX4 41 yX8_sunOf, Cond.instanceMethod yX8_sunOf, Cond.selects RX8 yX8_sunOf yX8_sunOf, Cond.initialized RX8, Cond.code yX8_sunOf cX8_sunOf 2 (some .int), Cond.fieldLink RX8 15 "OneTime$Towers" "suns" "[I", Cond.methodLink RX8 25 yX8_has, Cond.instanceMethod yX8_has, Cond.selects RX8 yX8_has yX8_has, Cond.code yX8_has cX8_has 2 (some .boolean), Cond.fieldLink RX8 9 "OneTime$Towers" "size" "I", Cond.methodLink RX4 45 yX4_minutesBetween, Cond.static yX4_minutesBetween, Cond.initialized RX4]
def wsX4_canBeBetter_r2 : List Cond := [Cond.code yX4_minutesBetween cX4_minutesBetween 2 (some .int), Cond.methodLink RX4 62 Lib.Math.abs.name, Cond.static Lib.Math.abs.name, Cond.code Lib.Math.abs.name Lib.Math.abs.code 1 (some .int), Cond.methodLink RX4 49 yX4_sizeOfError, Cond.static yX4_sizeOfError, Cond.code yX4_sizeOfError cX4_sizeOfError 3 (some .int), Cond.methodLink RX4 65 yX8_errorAt, Cond.instanceMethod yX8_errorAt, Cond.selects RX8 yX8_errorAt yX8_errorAt, Cond.code yX8_errorAt cX8_errorAt 3 (some .int), Cond.fieldLink RX8 22 "OneTime$Towers" "drifts" "[I", Cond.fieldLink RX8 19 "OneTime$Towers" "setMinutes" "[I"]
def wsX4_canBeBetter : List Cond := .code yX4_canBeBetter cX4_canBeBetter 12 (some .boolean) :: ((wsX4_canBeBetter_r1 ++ wsX4_canBeBetter_r2) ++ wsX80 ++ wsX40)
def wsX4_goOn_r1 : List Cond := [Cond.fieldLink RX4 28 "OneTime$Towers" "size" "I", Cond.methodLink RX4 53 Lib.Math.max.name, Cond.static Lib.Math.max.name, Cond.initialized "java/lang/Math", Cond.code Lib.Math.max.name Lib.Math.max.code 2 (some .int), Cond.fieldLink RX4 9 "OneTime$RoundSearch" "order" "[I", Cond.methodLink RX4 37 yX4_keep, Cond.instanceMethod yX4_keep, Cond.selects RX4 yX4_keep yX4_keep, Cond.initialized RX4, Cond.code yX4_keep cX4_keep 5 none, Cond.fieldLink RX4 18 "OneTime$RoundSearch" "bestWorst" "I", Cond.fieldLink RX4 22 "OneTime$RoundSearch" "bestEnd" "I", Cond.fieldLink RX4 15 "OneTime$RoundSearch" "best" "[I", Cond.methodLink RX4 41 yX8_sunOf, Cond.instanceMethod yX8_sunOf, Cond.selects RX8 yX8_sunOf yX8_sunOf, Cond.initialized RX8, Cond.code yX8_sunOf cX8_sunOf 2 (some .int), Cond.fieldLink RX8 15 "OneTime$Towers" "suns" "[I", Cond.methodLink RX8 25 yX8_has, Cond.instanceMethod yX8_has, Cond.selects RX8 yX8_has yX8_has, Cond.code yX8_has cX8_has 2 (some .boolean)]
def wsX4_goOn_r2 : List Cond := [Cond.fieldLink RX8 9 "OneTime$Towers" "size" "I", Cond.methodLink RX4 45 yX4_minutesBetween, Cond.static yX4_minutesBetween, Cond.code yX4_minutesBetween cX4_minutesBetween 2 (some .int), Cond.methodLink RX4 62 Lib.Math.abs.name, Cond.static Lib.Math.abs.name, Cond.code Lib.Math.abs.name Lib.Math.abs.code 1 (some .int), Cond.methodLink RX4 49 yX4_sizeOfError, Cond.static yX4_sizeOfError, Cond.code yX4_sizeOfError cX4_sizeOfError 3 (some .int), Cond.methodLink RX4 65 yX8_errorAt, Cond.instanceMethod yX8_errorAt, Cond.selects RX8 yX8_errorAt yX8_errorAt, Cond.code yX8_errorAt cX8_errorAt 3 (some .int), Cond.fieldLink RX8 22 "OneTime$Towers" "drifts" "[I", Cond.fieldLink RX8 19 "OneTime$Towers" "setMinutes" "[I", Cond.methodLink RX4 58 yX4_canBeBetter, Cond.instanceMethod yX4_canBeBetter, Cond.selects RX4 yX4_canBeBetter yX4_canBeBetter, Cond.code yX4_canBeBetter cX4_canBeBetter 12 (some .boolean), Cond.methodLink RX4 68 Lib.Math.min.name, Cond.static Lib.Math.min.name, Cond.code Lib.Math.min.name Lib.Math.min.code 2 (some .int), Cond.methodLink RX4 33 yX4_goOn]
def wsX4_goOn_r3 : List Cond := [Cond.instanceMethod yX4_goOn, Cond.selects RX4 yX4_goOn yX4_goOn]
def wsX4_goOn : List Cond := .code yX4_goOn cX4_goOn 12 none :: ((wsX4_goOn_r1 ++ (wsX4_goOn_r2 ++ wsX4_goOn_r3)) ++ wsX80 ++ wsX40)
def wsX4_seek_r1 : List Cond := [Cond.constant RX4 27 (2147483647), Cond.fieldLink RX4 18 "OneTime$RoundSearch" "bestWorst" "I", Cond.fieldLink RX4 22 "OneTime$RoundSearch" "bestEnd" "I", Cond.fieldLink RX4 28 "OneTime$Towers" "size" "I", Cond.methodLink RX4 33 yX4_goOn, Cond.instanceMethod yX4_goOn, Cond.selects RX4 yX4_goOn yX4_goOn, Cond.initialized RX4, Cond.code yX4_goOn cX4_goOn 12 none, Cond.methodLink RX4 53 Lib.Math.max.name, Cond.static Lib.Math.max.name, Cond.initialized "java/lang/Math", Cond.code Lib.Math.max.name Lib.Math.max.code 2 (some .int), Cond.fieldLink RX4 9 "OneTime$RoundSearch" "order" "[I", Cond.methodLink RX4 37 yX4_keep, Cond.instanceMethod yX4_keep, Cond.selects RX4 yX4_keep yX4_keep, Cond.code yX4_keep cX4_keep 5 none, Cond.fieldLink RX4 15 "OneTime$RoundSearch" "best" "[I", Cond.methodLink RX4 41 yX8_sunOf, Cond.instanceMethod yX8_sunOf, Cond.selects RX8 yX8_sunOf yX8_sunOf, Cond.initialized RX8, Cond.code yX8_sunOf cX8_sunOf 2 (some .int)]
def wsX4_seek_r2 : List Cond := [Cond.fieldLink RX8 15 "OneTime$Towers" "suns" "[I", Cond.methodLink RX8 25 yX8_has, Cond.instanceMethod yX8_has, Cond.selects RX8 yX8_has yX8_has, Cond.code yX8_has cX8_has 2 (some .boolean), Cond.fieldLink RX8 9 "OneTime$Towers" "size" "I", Cond.methodLink RX4 45 yX4_minutesBetween, Cond.static yX4_minutesBetween, Cond.code yX4_minutesBetween cX4_minutesBetween 2 (some .int), Cond.methodLink RX4 62 Lib.Math.abs.name, Cond.static Lib.Math.abs.name, Cond.code Lib.Math.abs.name Lib.Math.abs.code 1 (some .int), Cond.methodLink RX4 49 yX4_sizeOfError, Cond.static yX4_sizeOfError, Cond.code yX4_sizeOfError cX4_sizeOfError 3 (some .int), Cond.methodLink RX4 65 yX8_errorAt, Cond.instanceMethod yX8_errorAt, Cond.selects RX8 yX8_errorAt yX8_errorAt, Cond.code yX8_errorAt cX8_errorAt 3 (some .int), Cond.fieldLink RX8 22 "OneTime$Towers" "drifts" "[I", Cond.fieldLink RX8 19 "OneTime$Towers" "setMinutes" "[I", Cond.methodLink RX4 58 yX4_canBeBetter, Cond.instanceMethod yX4_canBeBetter, Cond.selects RX4 yX4_canBeBetter yX4_canBeBetter]
def wsX4_seek_r3 : List Cond := [Cond.code yX4_canBeBetter cX4_canBeBetter 12 (some .boolean), Cond.methodLink RX4 68 Lib.Math.min.name, Cond.static Lib.Math.min.name, Cond.code Lib.Math.min.name Lib.Math.min.code 2 (some .int)]
def wsX4_seek : List Cond := .code yX4_seek cX4_seek 4 none :: ((wsX4_seek_r1 ++ (wsX4_seek_r2 ++ wsX4_seek_r3)) ++ wsX40 ++ wsX80)
def wsX5_init : List Cond := .code yX5_init cX5_init 1 none :: ([.methodLink RX5 3 objectInit, .instanceMethod objectInit, .code objectInit ⟨#[0xb1]⟩ 1 none, .arrayClass .int, .fieldLink RX5 9 "OneTime$Row" "numbers" "[I", .fieldLink RX5 15 "OneTime$Row" "size" "I"] ++ wsX50)
def wsX5_clear : List Cond := .code yX5_clear cX5_clear 1 none :: ([.fieldLink RX5 15 "OneTime$Row" "size" "I"] ++ wsX50)
def wsX5_add : List Cond := .code yX5_add cX5_add 2 none :: ([.fieldLink RX5 15 "OneTime$Row" "size" "I", .fieldLink RX5 9 "OneTime$Row" "numbers" "[I"] ++ wsX50)
def wsX5_addMinute : List Cond := .code yX5_addMinute cX5_addMinute 2 none :: ([.methodLink RX5 19 yX5_add, .instanceMethod yX5_add, .selects RX5 yX5_add yX5_add, .initialized RX5, .code yX5_add cX5_add 2 none, .fieldLink RX5 15 "OneTime$Row" "size" "I", .fieldLink RX5 9 "OneTime$Row" "numbers" "[I"] ++ wsX50)
def wsX6_dropLast : List Cond := .code yX6_dropLast cX6_dropLast 1 none :: ([.fieldLink RX6 9 "OneTime$Since" "size" "I"] ++ wsX60)
def wsX6_holding : List Cond := .code yX6_holding cX6_holding 6 (some .int) :: ([.fieldLink RX6 9 "OneTime$Since" "size" "I", .fieldLink RX6 21 "OneTime$Since" "ofTowns" "[I", .fieldLink RX6 25 "OneTime$Since" "fromDays" "[I"] ++ wsX60)
def wsX6_nextDay : List Cond := .code yX6_nextDay cX6_nextDay 5 (some .int) :: ([.fieldLink RX6 9 "OneTime$Since" "size" "I", .fieldLink RX6 21 "OneTime$Since" "ofTowns" "[I", .fieldLink RX6 25 "OneTime$Since" "fromDays" "[I"] ++ wsX60)
def wsX6_nextDayOfAny : List Cond := .code yX6_nextDayOfAny cX6_nextDayOfAny 4 (some .int) :: ([.fieldLink RX6 9 "OneTime$Since" "size" "I", .fieldLink RX6 25 "OneTime$Since" "fromDays" "[I"] ++ wsX60)
def wsX7_init : List Cond := .code yX7_init cX7_init 1 none :: ([.methodLink RX7 3 objectInit, .instanceMethod objectInit, .code objectInit ⟨#[0xb1]⟩ 1 none, .arrayClass .int, .fieldLink RX7 9 "OneTime$Tape" "signs" "[I", .fieldLink RX7 15 "OneTime$Tape" "size" "I"] ++ wsX70)
def wsX7_addFour : List Cond := .code yX7_addFour cX7_addFour 3 (some .int) :: ([.fieldLink RX7 15 "OneTime$Tape" "size" "I", .fieldLink RX7 9 "OneTime$Tape" "signs" "[I"] ++ wsX70)
def wsX7_cut : List Cond := .code yX7_cut cX7_cut 2 (some .boolean) :: ([.fieldLink RX7 15 "OneTime$Tape" "size" "I"] ++ wsX70)
def wsX7_clear : List Cond := .code yX7_clear cX7_clear 1 none :: ([.fieldLink RX7 15 "OneTime$Tape" "size" "I"] ++ wsX70)
def wsX8_init : List Cond := .code yX8_init cX8_init 1 none :: ([.methodLink RX8 3 objectInit, .instanceMethod objectInit, .code objectInit ⟨#[0xb1]⟩ 1 none, .fieldLink RX8 9 "OneTime$Towers" "size" "I", .arrayClass .int, .fieldLink RX8 15 "OneTime$Towers" "suns" "[I", .fieldLink RX8 19 "OneTime$Towers" "setMinutes" "[I", .fieldLink RX8 22 "OneTime$Towers" "drifts" "[I"] ++ wsX80)
def wsX8_build : List Cond := .code yX8_build cX8_build 4 (some .int) :: ([.fieldLink RX8 9 "OneTime$Towers" "size" "I", .fieldLink RX8 15 "OneTime$Towers" "suns" "[I", .fieldLink RX8 19 "OneTime$Towers" "setMinutes" "[I", .fieldLink RX8 22 "OneTime$Towers" "drifts" "[I"] ++ wsX80)
def wsX8_isSetBy : List Cond := .code yX8_isSetBy cX8_isSetBy 3 (some .boolean) :: ([.fieldLink RX8 19 "OneTime$Towers" "setMinutes" "[I", .methodLink RX8 25 yX8_has, .instanceMethod yX8_has, .selects RX8 yX8_has yX8_has, .initialized RX8, .code yX8_has cX8_has 2 (some .boolean), .fieldLink RX8 9 "OneTime$Towers" "size" "I"] ++ wsX80)
def wsX8_areAllSetBy : List Cond := .code yX8_areAllSetBy cX8_areAllSetBy 3 (some .boolean) :: ([.fieldLink RX8 9 "OneTime$Towers" "size" "I", .fieldLink RX8 19 "OneTime$Towers" "setMinutes" "[I"] ++ wsX80)
def wsX9_init : List Cond := .code yX9_init cX9_init 1 none :: ([.methodLink RX9 3 objectInit, .instanceMethod objectInit, .code objectInit ⟨#[0xb1]⟩ 1 none, .arrayClass .int, .fieldLink RX9 9 "OneTime$Towns" "suns" "[I", .fieldLink RX9 15 "OneTime$Towns" "size" "I", .classLink RX9 19 RX6, .instantiable RX6 3, .initialized RX6, .fieldLink RX9 24 "OneTime$Towns" "clocks" "LOneTime$Since;", .fieldLink RX9 28 "OneTime$Towns" "shifts" "[I", .methodLink RX9 21 yX6_init, .instanceMethod yX6_init, .code yX6_init cX6_init 2 none, .methodLink RX6 3 objectInit, .fieldLink RX6 9 "OneTime$Since" "size" "I", .methodLink RX6 15 Lib.Math.max.name, .static Lib.Math.max.name, .initialized "java/lang/Math", .code Lib.Math.max.name Lib.Math.max.code 2 (some .int), .fieldLink RX6 21 "OneTime$Since" "ofTowns" "[I", .fieldLink RX6 25 "OneTime$Since" "fromDays" "[I"] ++ wsX90 ++ wsX60)
def wsX9_has : List Cond := .code yX9_has cX9_has 2 (some .boolean) :: ([.fieldLink RX9 15 "OneTime$Towns" "size" "I"] ++ wsX90)
def wsX9_settle : List Cond := .code yX9_settle cX9_settle 2 (some .int) :: ([.fieldLink RX9 15 "OneTime$Towns" "size" "I", .fieldLink RX9 9 "OneTime$Towns" "suns" "[I"] ++ wsX90)
def wsX9_isClock : List Cond := .code yX9_isClock cX9_isClock 4 (some .boolean) :: ([.methodLink RX9 31 yX9_has, .instanceMethod yX9_has, .selects RX9 yX9_has yX9_has, .initialized RX9, .code yX9_has cX9_has 2 (some .boolean), .fieldLink RX9 15 "OneTime$Towns" "size" "I"] ++ wsX90)
def wsX9_sunOf : List Cond := .code yX9_sunOf cX9_sunOf 2 (some .int) :: ([.fieldLink RX9 9 "OneTime$Towns" "suns" "[I", .methodLink RX9 31 yX9_has, .instanceMethod yX9_has, .selects RX9 yX9_has yX9_has, .initialized RX9, .code yX9_has cX9_has 2 (some .boolean), .fieldLink RX9 15 "OneTime$Towns" "size" "I"] ++ wsX90)
def wsX9_shiftOfKind : List Cond := .code yX9_shiftOfKind cX9_shiftOfKind 4 (some .int) :: ([.methodLink RX9 35 yX9_sunOf, .instanceMethod yX9_sunOf, .selects RX9 yX9_sunOf yX9_sunOf, .initialized RX9, .code yX9_sunOf cX9_sunOf 2 (some .int), .fieldLink RX9 9 "OneTime$Towns" "suns" "[I", .methodLink RX9 31 yX9_has, .instanceMethod yX9_has, .selects RX9 yX9_has yX9_has, .code yX9_has cX9_has 2 (some .boolean), .fieldLink RX9 15 "OneTime$Towns" "size" "I"] ++ wsX90)
def wsX9_tellClock : List Cond := .code yX9_tellClock cX9_tellClock 4 (some .int) :: ([.fieldLink RX9 24 "OneTime$Towns" "clocks" "LOneTime$Since;", .fieldLink RX9 28 "OneTime$Towns" "shifts" "[I", .fieldLink RX9 43 "OneTime$Since" "size" "I", .methodLink RX9 39 yX6_isFull, .instanceMethod yX6_isFull, .selects RX6 yX6_isFull yX6_isFull, .initialized RX6, .code yX6_isFull cX6_isFull 1 (some .boolean), .fieldLink RX6 9 "OneTime$Since" "size" "I", .fieldLink RX6 21 "OneTime$Since" "ofTowns" "[I", .methodLink RX9 44 yX6_add, .instanceMethod yX6_add, .selects RX6 yX6_add yX6_add, .code yX6_add cX6_add 3 none, .fieldLink RX6 25 "OneTime$Since" "fromDays" "[I"] ++ wsX90 ++ wsX60)
def wsX9_takeClockBack : List Cond := .code yX9_takeClockBack cX9_takeClockBack 1 (some .int) :: ([.fieldLink RX9 24 "OneTime$Towns" "clocks" "LOneTime$Since;", .fieldLink RX9 43 "OneTime$Since" "size" "I", .methodLink RX9 48 yX6_dropLast, .instanceMethod yX6_dropLast, .selects RX6 yX6_dropLast yX6_dropLast, .initialized RX6, .code yX6_dropLast cX6_dropLast 1 none, .fieldLink RX6 9 "OneTime$Since" "size" "I"] ++ wsX90 ++ wsX60)
def wsX9_shiftOn : List Cond := .code yX9_shiftOn cX9_shiftOn 4 (some .int) :: ([.fieldLink RX9 24 "OneTime$Towns" "clocks" "LOneTime$Since;", .fieldLink RX9 28 "OneTime$Towns" "shifts" "[I", .methodLink RX9 51 yX6_holding, .instanceMethod yX6_holding, .selects RX6 yX6_holding yX6_holding, .initialized RX6, .code yX6_holding cX6_holding 6 (some .int), .fieldLink RX6 9 "OneTime$Since" "size" "I", .fieldLink RX6 21 "OneTime$Since" "ofTowns" "[I", .fieldLink RX6 25 "OneTime$Since" "fromDays" "[I", .methodLink RX9 35 yX9_sunOf, .instanceMethod yX9_sunOf, .selects RX9 yX9_sunOf yX9_sunOf, .initialized RX9, .code yX9_sunOf cX9_sunOf 2 (some .int), .fieldLink RX9 9 "OneTime$Towns" "suns" "[I", .methodLink RX9 31 yX9_has, .instanceMethod yX9_has, .selects RX9 yX9_has yX9_has, .code yX9_has cX9_has 2 (some .boolean), .fieldLink RX9 15 "OneTime$Towns" "size" "I"] ++ wsX90 ++ wsX60)
def wsX9_readingAt_r1 : List Cond := [Cond.methodLink RX9 55 yX9_shiftOn, Cond.instanceMethod yX9_shiftOn, Cond.selects RX9 yX9_shiftOn yX9_shiftOn, Cond.initialized RX9, Cond.code yX9_shiftOn cX9_shiftOn 4 (some .int), Cond.fieldLink RX9 24 "OneTime$Towns" "clocks" "LOneTime$Since;", Cond.fieldLink RX9 28 "OneTime$Towns" "shifts" "[I", Cond.methodLink RX9 51 yX6_holding, Cond.instanceMethod yX6_holding, Cond.selects RX6 yX6_holding yX6_holding, Cond.initialized RX6, Cond.code yX6_holding cX6_holding 6 (some .int), Cond.fieldLink RX6 9 "OneTime$Since" "size" "I", Cond.fieldLink RX6 21 "OneTime$Since" "ofTowns" "[I", Cond.fieldLink RX6 25 "OneTime$Since" "fromDays" "[I", Cond.methodLink RX9 35 yX9_sunOf, Cond.instanceMethod yX9_sunOf, Cond.selects RX9 yX9_sunOf yX9_sunOf, Cond.code yX9_sunOf cX9_sunOf 2 (some .int), Cond.fieldLink RX9 9 "OneTime$Towns" "suns" "[I", Cond.methodLink RX9 31 yX9_has, Cond.instanceMethod yX9_has, Cond.selects RX9 yX9_has yX9_has, Cond.code yX9_has cX9_has 2 (some .boolean)]
def wsX9_readingAt_r2 : List Cond := [Cond.fieldLink RX9 15 "OneTime$Towns" "size" "I"]
def wsX9_readingAt : List Cond := .code yX9_readingAt cX9_readingAt 3 (some .int) :: ((wsX9_readingAt_r1 ++ wsX9_readingAt_r2) ++ wsX90 ++ wsX60)
def wsJ9_floorDiv_7cf53 : List Cond := .code yJ9_floorDiv_7cf53 cJ9_floorDiv_7cf53 3 (some .int) :: ([])
def wsX9_nearestZone : List Cond := .code yX9_nearestZone cX9_nearestZone 2 (some .int) :: ([.methodLink RX9 35 yX9_sunOf, .instanceMethod yX9_sunOf, .selects RX9 yX9_sunOf yX9_sunOf, .initialized RX9, .code yX9_sunOf cX9_sunOf 2 (some .int), .fieldLink RX9 9 "OneTime$Towns" "suns" "[I", .methodLink RX9 31 yX9_has, .instanceMethod yX9_has, .selects RX9 yX9_has yX9_has, .code yX9_has cX9_has 2 (some .boolean), .fieldLink RX9 15 "OneTime$Towns" "size" "I", .methodLink RX9 58 yJ9_floorDiv_7cf53, .static yJ9_floorDiv_7cf53, .initialized RJ9, .code yJ9_floorDiv_7cf53 cJ9_floorDiv_7cf53 3 (some .int)] ++ wsX90)
def wsX9_firstDayNear : List Cond := .code yX9_firstDayNear cX9_firstDayNear 1 (some .int) :: ([.constant RX9 63 (576720), .methodLink RX9 58 yJ9_floorDiv_7cf53, .static yJ9_floorDiv_7cf53, .initialized RJ9, .code yJ9_floorDiv_7cf53 cJ9_floorDiv_7cf53 3 (some .int)])
def wsX10_isDay : List Cond := .code yX10_isDay cX10_isDay 1 (some .boolean) :: ([])
def wsX9_minuteShowing_r1 : List Cond := [Cond.static yX10_isDay, Cond.initialized RX10, Cond.code yX10_isDay cX10_isDay 1 (some .boolean), Cond.methodLink RX9 55 yX9_shiftOn, Cond.instanceMethod yX9_shiftOn, Cond.selects RX9 yX9_shiftOn yX9_shiftOn, Cond.initialized RX9, Cond.code yX9_shiftOn cX9_shiftOn 4 (some .int), Cond.fieldLink RX9 24 "OneTime$Towns" "clocks" "LOneTime$Since;", Cond.fieldLink RX9 28 "OneTime$Towns" "shifts" "[I", Cond.methodLink RX9 51 yX6_holding, Cond.instanceMethod yX6_holding, Cond.selects RX6 yX6_holding yX6_holding, Cond.initialized RX6, Cond.code yX6_holding cX6_holding 6 (some .int), Cond.fieldLink RX6 9 "OneTime$Since" "size" "I", Cond.fieldLink RX6 21 "OneTime$Since" "ofTowns" "[I", Cond.fieldLink RX6 25 "OneTime$Since" "fromDays" "[I", Cond.methodLink RX9 35 yX9_sunOf, Cond.instanceMethod yX9_sunOf, Cond.selects RX9 yX9_sunOf yX9_sunOf, Cond.code yX9_sunOf cX9_sunOf 2 (some .int), Cond.fieldLink RX9 9 "OneTime$Towns" "suns" "[I", Cond.methodLink RX9 31 yX9_has]
def wsX9_minuteShowing_r2 : List Cond := [Cond.instanceMethod yX9_has, Cond.selects RX9 yX9_has yX9_has, Cond.code yX9_has cX9_has 2 (some .boolean), Cond.fieldLink RX9 15 "OneTime$Towns" "size" "I", Cond.methodLink RX9 58 yJ9_floorDiv_7cf53, Cond.static yJ9_floorDiv_7cf53, Cond.initialized RJ9, Cond.code yJ9_floorDiv_7cf53 cJ9_floorDiv_7cf53 3 (some .int)]
def wsX9_minuteShowing : List Cond := .code yX9_minuteShowing cX9_minuteShowing 5 (some .int) :: ((wsX9_minuteShowing_r1 ++ wsX9_minuteShowing_r2) ++ wsX90 ++ wsX60)
def wsX9_firstShowing_r1 : List Cond := [Cond.methodLink RX9 67 yX9_firstDayNear, Cond.static yX9_firstDayNear, Cond.initialized RX9, Cond.code yX9_firstDayNear cX9_firstDayNear 1 (some .int), Cond.constant RX9 63 (576720), Cond.methodLink RX9 58 yJ9_floorDiv_7cf53, Cond.static yJ9_floorDiv_7cf53, Cond.initialized RJ9, Cond.code yJ9_floorDiv_7cf53 cJ9_floorDiv_7cf53 3 (some .int), Cond.methodLink RX9 70 yX9_minuteShowing, Cond.instanceMethod yX9_minuteShowing, Cond.selects RX9 yX9_minuteShowing yX9_minuteShowing, Cond.code yX9_minuteShowing cX9_minuteShowing 5 (some .int), Cond.static yX10_isDay, Cond.initialized RX10, Cond.code yX10_isDay cX10_isDay 1 (some .boolean), Cond.methodLink RX9 55 yX9_shiftOn, Cond.instanceMethod yX9_shiftOn, Cond.selects RX9 yX9_shiftOn yX9_shiftOn, Cond.code yX9_shiftOn cX9_shiftOn 4 (some .int), Cond.fieldLink RX9 24 "OneTime$Towns" "clocks" "LOneTime$Since;", Cond.fieldLink RX9 28 "OneTime$Towns" "shifts" "[I", Cond.methodLink RX9 51 yX6_holding, Cond.instanceMethod yX6_holding]
def wsX9_firstShowing_r2 : List Cond := [Cond.selects RX6 yX6_holding yX6_holding, Cond.initialized RX6, Cond.code yX6_holding cX6_holding 6 (some .int), Cond.fieldLink RX6 9 "OneTime$Since" "size" "I", Cond.fieldLink RX6 21 "OneTime$Since" "ofTowns" "[I", Cond.fieldLink RX6 25 "OneTime$Since" "fromDays" "[I", Cond.methodLink RX9 35 yX9_sunOf, Cond.instanceMethod yX9_sunOf, Cond.selects RX9 yX9_sunOf yX9_sunOf, Cond.code yX9_sunOf cX9_sunOf 2 (some .int), Cond.fieldLink RX9 9 "OneTime$Towns" "suns" "[I", Cond.methodLink RX9 31 yX9_has, Cond.instanceMethod yX9_has, Cond.selects RX9 yX9_has yX9_has, Cond.code yX9_has cX9_has 2 (some .boolean), Cond.fieldLink RX9 15 "OneTime$Towns" "size" "I"]
def wsX9_firstShowing : List Cond := .code yX9_firstShowing cX9_firstShowing 5 (some .int) :: ((wsX9_firstShowing_r1 ++ wsX9_firstShowing_r2) ++ wsX90 ++ wsX60)
def wsX9_daysUnlike_r1 : List Cond := [Cond.fieldLink RX9 24 "OneTime$Towns" "clocks" "LOneTime$Since;", Cond.methodLink RX9 77 Lib.Math.min.name, Cond.static Lib.Math.min.name, Cond.initialized "java/lang/Math", Cond.code Lib.Math.min.name Lib.Math.min.code 2 (some .int), Cond.methodLink RX9 74 yX6_nextDay, Cond.instanceMethod yX6_nextDay, Cond.selects RX6 yX6_nextDay yX6_nextDay, Cond.initialized RX6, Cond.code yX6_nextDay cX6_nextDay 5 (some .int), Cond.fieldLink RX6 9 "OneTime$Since" "size" "I", Cond.fieldLink RX6 21 "OneTime$Since" "ofTowns" "[I", Cond.fieldLink RX6 25 "OneTime$Since" "fromDays" "[I", Cond.methodLink RX9 55 yX9_shiftOn, Cond.instanceMethod yX9_shiftOn, Cond.selects RX9 yX9_shiftOn yX9_shiftOn, Cond.initialized RX9, Cond.code yX9_shiftOn cX9_shiftOn 4 (some .int), Cond.fieldLink RX9 28 "OneTime$Towns" "shifts" "[I", Cond.methodLink RX9 51 yX6_holding, Cond.instanceMethod yX6_holding, Cond.selects RX6 yX6_holding yX6_holding, Cond.code yX6_holding cX6_holding 6 (some .int), Cond.methodLink RX9 35 yX9_sunOf]
def wsX9_daysUnlike_r2 : List Cond := [Cond.instanceMethod yX9_sunOf, Cond.selects RX9 yX9_sunOf yX9_sunOf, Cond.code yX9_sunOf cX9_sunOf 2 (some .int), Cond.fieldLink RX9 9 "OneTime$Towns" "suns" "[I", Cond.methodLink RX9 31 yX9_has, Cond.instanceMethod yX9_has, Cond.selects RX9 yX9_has yX9_has, Cond.code yX9_has cX9_has 2 (some .boolean), Cond.fieldLink RX9 15 "OneTime$Towns" "size" "I"]
def wsX9_daysUnlike : List Cond := .code yX9_daysUnlike cX9_daysUnlike 7 (some .int) :: ((wsX9_daysUnlike_r1 ++ wsX9_daysUnlike_r2) ++ wsX90 ++ wsX60)
def wsX9_areAlikeOn_r1 : List Cond := [Cond.fieldLink RX9 15 "OneTime$Towns" "size" "I", Cond.methodLink RX9 55 yX9_shiftOn, Cond.instanceMethod yX9_shiftOn, Cond.selects RX9 yX9_shiftOn yX9_shiftOn, Cond.initialized RX9, Cond.code yX9_shiftOn cX9_shiftOn 4 (some .int), Cond.fieldLink RX9 24 "OneTime$Towns" "clocks" "LOneTime$Since;", Cond.fieldLink RX9 28 "OneTime$Towns" "shifts" "[I", Cond.methodLink RX9 51 yX6_holding, Cond.instanceMethod yX6_holding, Cond.selects RX6 yX6_holding yX6_holding, Cond.initialized RX6, Cond.code yX6_holding cX6_holding 6 (some .int), Cond.fieldLink RX6 9 "OneTime$Since" "size" "I", Cond.fieldLink RX6 21 "OneTime$Since" "ofTowns" "[I", Cond.fieldLink RX6 25 "OneTime$Since" "fromDays" "[I", Cond.methodLink RX9 35 yX9_sunOf, Cond.instanceMethod yX9_sunOf, Cond.selects RX9 yX9_sunOf yX9_sunOf, Cond.code yX9_sunOf cX9_sunOf 2 (some .int), Cond.fieldLink RX9 9 "OneTime$Towns" "suns" "[I", Cond.methodLink RX9 31 yX9_has, Cond.instanceMethod yX9_has, Cond.selects RX9 yX9_has yX9_has]
def wsX9_areAlikeOn_r2 : List Cond := [Cond.code yX9_has cX9_has 2 (some .boolean)]
def wsX9_areAlikeOn : List Cond := .code yX9_areAlikeOn cX9_areAlikeOn 4 (some .boolean) :: ((wsX9_areAlikeOn_r1 ++ wsX9_areAlikeOn_r2) ++ wsX90 ++ wsX60)
def wsX9_firstDayAlike_r1 : List Cond := [Cond.fieldLink RX9 24 "OneTime$Towns" "clocks" "LOneTime$Since;", Cond.methodLink RX9 80 yX9_areAlikeOn, Cond.instanceMethod yX9_areAlikeOn, Cond.selects RX9 yX9_areAlikeOn yX9_areAlikeOn, Cond.initialized RX9, Cond.code yX9_areAlikeOn cX9_areAlikeOn 4 (some .boolean), Cond.fieldLink RX9 15 "OneTime$Towns" "size" "I", Cond.methodLink RX9 55 yX9_shiftOn, Cond.instanceMethod yX9_shiftOn, Cond.selects RX9 yX9_shiftOn yX9_shiftOn, Cond.code yX9_shiftOn cX9_shiftOn 4 (some .int), Cond.fieldLink RX9 28 "OneTime$Towns" "shifts" "[I", Cond.methodLink RX9 51 yX6_holding, Cond.instanceMethod yX6_holding, Cond.selects RX6 yX6_holding yX6_holding, Cond.initialized RX6, Cond.code yX6_holding cX6_holding 6 (some .int), Cond.fieldLink RX6 9 "OneTime$Since" "size" "I", Cond.fieldLink RX6 21 "OneTime$Since" "ofTowns" "[I", Cond.fieldLink RX6 25 "OneTime$Since" "fromDays" "[I", Cond.methodLink RX9 35 yX9_sunOf, Cond.instanceMethod yX9_sunOf, Cond.selects RX9 yX9_sunOf yX9_sunOf, Cond.code yX9_sunOf cX9_sunOf 2 (some .int)]
def wsX9_firstDayAlike_r2 : List Cond := [Cond.fieldLink RX9 9 "OneTime$Towns" "suns" "[I", Cond.methodLink RX9 31 yX9_has, Cond.instanceMethod yX9_has, Cond.selects RX9 yX9_has yX9_has, Cond.code yX9_has cX9_has 2 (some .boolean), Cond.methodLink RX9 83 yX6_nextDayOfAny, Cond.instanceMethod yX6_nextDayOfAny, Cond.selects RX6 yX6_nextDayOfAny yX6_nextDayOfAny, Cond.code yX6_nextDayOfAny cX6_nextDayOfAny 4 (some .int)]
def wsX9_firstDayAlike : List Cond := .code yX9_firstDayAlike cX9_firstDayAlike 4 (some .int) :: ((wsX9_firstDayAlike_r1 ++ wsX9_firstDayAlike_r2) ++ wsX90 ++ wsX60)
def wsX10_init_r1 : List Cond := [Cond.methodLink RX10 3 objectInit, Cond.instanceMethod objectInit, Cond.code objectInit ⟨#[0xb1]⟩ 1 none, Cond.classLink RX10 9 RX9, Cond.instantiable RX9 4, Cond.initialized RX9, Cond.fieldLink RX10 12 "OneTime" "towns" "LOneTime$Towns;", Cond.classLink RX10 16 RX3, Cond.instantiable RX3 8, Cond.initialized RX3, Cond.fieldLink RX10 19 "OneTime" "line" "LOneTime$Line;", Cond.classLink RX10 23 RX0, Cond.instantiable RX0 6, Cond.initialized RX0, Cond.fieldLink RX10 26 "OneTime" "delaySearch" "LOneTime$DelaySearch;", Cond.classLink RX10 30 RX7, Cond.instantiable RX7 2, Cond.initialized RX7, Cond.fieldLink RX10 33 "OneTime" "tape" "LOneTime$Tape;", Cond.classLink RX10 37 RX2, Cond.instantiable RX2 4, Cond.initialized RX2, Cond.fieldLink RX10 40 "OneTime" "laws" "LOneTime$Laws;", Cond.classLink RX10 44 RX8]
def wsX10_init_r2 : List Cond := [Cond.instantiable RX8 4, Cond.initialized RX8, Cond.fieldLink RX10 47 "OneTime" "towers" "LOneTime$Towers;", Cond.classLink RX10 51 RX4, Cond.instantiable RX4 4, Cond.initialized RX4, Cond.fieldLink RX10 54 "OneTime" "roundSearch" "LOneTime$RoundSearch;", Cond.classLink RX10 58 RX5, Cond.instantiable RX5 2, Cond.initialized RX5, Cond.fieldLink RX10 61 "OneTime" "told" "LOneTime$Row;", Cond.instanceMethod yX9_init, Cond.code yX9_init cX9_init 1 none, Cond.methodLink RX9 3 objectInit, Cond.arrayClass .int, Cond.fieldLink RX9 9 "OneTime$Towns" "suns" "[I", Cond.fieldLink RX9 15 "OneTime$Towns" "size" "I", Cond.classLink RX9 19 RX6, Cond.instantiable RX6 3, Cond.initialized RX6, Cond.fieldLink RX9 24 "OneTime$Towns" "clocks" "LOneTime$Since;", Cond.fieldLink RX9 28 "OneTime$Towns" "shifts" "[I", Cond.methodLink RX9 21 yX6_init, Cond.instanceMethod yX6_init]
def wsX10_init_r3 : List Cond := [Cond.code yX6_init cX6_init 2 none, Cond.methodLink RX6 3 objectInit, Cond.fieldLink RX6 9 "OneTime$Since" "size" "I", Cond.methodLink RX6 15 Lib.Math.max.name, Cond.static Lib.Math.max.name, Cond.initialized "java/lang/Math", Cond.code Lib.Math.max.name Lib.Math.max.code 2 (some .int), Cond.fieldLink RX6 21 "OneTime$Since" "ofTowns" "[I", Cond.fieldLink RX6 25 "OneTime$Since" "fromDays" "[I", Cond.instanceMethod yX3_init, Cond.code yX3_init cX3_init 1 none, Cond.methodLink RX3 3 objectInit, Cond.fieldLink RX3 9 "OneTime$Line" "stations" "I", Cond.fieldLink RX3 15 "OneTime$Line" "ofTowns" "[I", Cond.fieldLink RX3 19 "OneTime$Line" "ways" "[I", Cond.fieldLink RX3 22 "OneTime$Line" "trains" "I", Cond.arrayClass .boolean, Cond.fieldLink RX3 25 "OneTime$Line" "ups" "[Z", Cond.fieldLink RX3 29 "OneTime$Line" "starts" "[I", Cond.fieldLink RX3 32 "OneTime$Line" "stays" "[I", Cond.fieldLink RX3 35 "OneTime$Line" "delays" "[I", Cond.instanceMethod yX0_init, Cond.code yX0_init cX0_init 1 none, Cond.methodLink RX0 5 objectInit]
def wsX10_init_r4 : List Cond := [Cond.classLink RX0 11 "[[I", Cond.fieldLink RX0 13 "OneTime$DelaySearch" "apart" "[[I", Cond.fieldLink RX0 16 "OneTime$DelaySearch" "open" "[[I", Cond.fieldLink RX0 19 "OneTime$DelaySearch" "steps" "[I", Cond.fieldLink RX0 23 "OneTime$DelaySearch" "best" "[I", Cond.fieldLink RX0 26 "OneTime$DelaySearch" "trains" "I", Cond.fieldLink RX0 30 "OneTime$DelaySearch" "bestCost" "I", Cond.instanceMethod yX7_init, Cond.code yX7_init cX7_init 1 none, Cond.methodLink RX7 3 objectInit, Cond.fieldLink RX7 9 "OneTime$Tape" "signs" "[I", Cond.fieldLink RX7 15 "OneTime$Tape" "size" "I", Cond.instanceMethod yX2_init, Cond.code yX2_init cX2_init 1 none, Cond.methodLink RX2 3 objectInit, Cond.classLink RX2 9 RX6, Cond.fieldLink RX2 14 "OneTime$Laws" "since" "LOneTime$Since;", Cond.classLink RX2 20 RX1, Cond.instantiable RX1 6, Cond.initialized RX1, Cond.fieldLink RX2 23 "OneTime$Laws" "reader" "LOneTime$LawReader;", Cond.fieldLink RX2 27 "OneTime$Laws" "times" "[I", Cond.fieldLink RX2 31 "OneTime$Laws" "mores" "[I", Cond.methodLink RX2 11 yX6_init]
def wsX10_init_r5 : List Cond := [Cond.instanceMethod yX1_init, Cond.code yX1_init cX1_init 1 none, Cond.methodLink RX1 3 objectInit, Cond.fieldLink RX1 9 "OneTime$LawReader" "times" "[I", Cond.fieldLink RX1 15 "OneTime$LawReader" "mores" "[I", Cond.fieldLink RX1 18 "OneTime$LawReader" "state" "I", Cond.fieldLink RX1 22 "OneTime$LawReader" "matter" "I", Cond.fieldLink RX1 25 "OneTime$LawReader" "sense" "I", Cond.fieldLink RX1 28 "OneTime$LawReader" "digits" "I", Cond.instanceMethod yX8_init, Cond.code yX8_init cX8_init 1 none, Cond.methodLink RX8 3 objectInit, Cond.fieldLink RX8 9 "OneTime$Towers" "size" "I", Cond.fieldLink RX8 15 "OneTime$Towers" "suns" "[I", Cond.fieldLink RX8 19 "OneTime$Towers" "setMinutes" "[I", Cond.fieldLink RX8 22 "OneTime$Towers" "drifts" "[I", Cond.instanceMethod yX4_init, Cond.code yX4_init cX4_init 1 none, Cond.methodLink RX4 3 objectInit, Cond.fieldLink RX4 9 "OneTime$RoundSearch" "order" "[I", Cond.fieldLink RX4 15 "OneTime$RoundSearch" "best" "[I", Cond.fieldLink RX4 18 "OneTime$RoundSearch" "bestWorst" "I", Cond.fieldLink RX4 22 "OneTime$RoundSearch" "bestEnd" "I", Cond.instanceMethod yX5_init]
def wsX10_init_r6 : List Cond := [Cond.code yX5_init cX5_init 1 none, Cond.methodLink RX5 3 objectInit, Cond.fieldLink RX5 9 "OneTime$Row" "numbers" "[I", Cond.fieldLink RX5 15 "OneTime$Row" "size" "I"]
def wsX10_init : List Cond := .code yX10_init cX10_init 1 none :: ((wsX10_init_r1 ++ (wsX10_init_r2 ++ (wsX10_init_r3 ++ (wsX10_init_r4 ++ (wsX10_init_r5 ++ wsX10_init_r6))))) ++ wsX90 ++ wsX100 ++ wsX30 ++ wsX00 ++ wsX70 ++ wsX20 ++ wsX80 ++ wsX40 ++ wsX50 ++ wsX60 ++ wsX10)
def wsX10_town : List Cond := .code yX10_town cX10_town 2 (some .int) :: ([.fieldLink RX10 12 "OneTime" "towns" "LOneTime$Towns;", .methodLink RX10 65 yX9_settle, .instanceMethod yX9_settle, .selects RX9 yX9_settle yX9_settle, .initialized RX9, .code yX9_settle cX9_settle 2 (some .int), .fieldLink RX9 15 "OneTime$Towns" "size" "I", .fieldLink RX9 9 "OneTime$Towns" "suns" "[I"] ++ wsX100 ++ wsX90)
def wsX10_clock_r1 : List Cond := [Cond.fieldLink RX10 12 "OneTime" "towns" "LOneTime$Towns;", Cond.methodLink RX10 69 yX9_has, Cond.instanceMethod yX9_has, Cond.selects RX9 yX9_has yX9_has, Cond.initialized RX9, Cond.code yX9_has cX9_has 2 (some .boolean), Cond.fieldLink RX9 15 "OneTime$Towns" "size" "I", Cond.methodLink RX10 73 yX10_isDay, Cond.static yX10_isDay, Cond.initialized RX10, Cond.code yX10_isDay cX10_isDay 1 (some .boolean), Cond.methodLink RX10 76 yX9_isClock, Cond.instanceMethod yX9_isClock, Cond.selects RX9 yX9_isClock yX9_isClock, Cond.code yX9_isClock cX9_isClock 4 (some .boolean), Cond.methodLink RX9 31 yX9_has, Cond.methodLink RX10 80 yX9_shiftOfKind, Cond.instanceMethod yX9_shiftOfKind, Cond.selects RX9 yX9_shiftOfKind yX9_shiftOfKind, Cond.code yX9_shiftOfKind cX9_shiftOfKind 4 (some .int), Cond.methodLink RX9 35 yX9_sunOf, Cond.instanceMethod yX9_sunOf, Cond.selects RX9 yX9_sunOf yX9_sunOf, Cond.code yX9_sunOf cX9_sunOf 2 (some .int)]
def wsX10_clock_r2 : List Cond := [Cond.fieldLink RX9 9 "OneTime$Towns" "suns" "[I", Cond.methodLink RX10 84 yX9_tellClock, Cond.instanceMethod yX9_tellClock, Cond.selects RX9 yX9_tellClock yX9_tellClock, Cond.code yX9_tellClock cX9_tellClock 4 (some .int), Cond.fieldLink RX9 24 "OneTime$Towns" "clocks" "LOneTime$Since;", Cond.fieldLink RX9 28 "OneTime$Towns" "shifts" "[I", Cond.fieldLink RX9 43 "OneTime$Since" "size" "I", Cond.methodLink RX9 39 yX6_isFull, Cond.instanceMethod yX6_isFull, Cond.selects RX6 yX6_isFull yX6_isFull, Cond.initialized RX6, Cond.code yX6_isFull cX6_isFull 1 (some .boolean), Cond.fieldLink RX6 9 "OneTime$Since" "size" "I", Cond.fieldLink RX6 21 "OneTime$Since" "ofTowns" "[I", Cond.methodLink RX9 44 yX6_add, Cond.instanceMethod yX6_add, Cond.selects RX6 yX6_add yX6_add, Cond.code yX6_add cX6_add 3 none, Cond.fieldLink RX6 25 "OneTime$Since" "fromDays" "[I"]
def wsX10_clock : List Cond := .code yX10_clock cX10_clock 5 (some .int) :: ((wsX10_clock_r1 ++ wsX10_clock_r2) ++ wsX100 ++ wsX90 ++ wsX60)
def wsX10_untell : List Cond := .code yX10_untell cX10_untell 1 (some .int) :: ([.fieldLink RX10 12 "OneTime" "towns" "LOneTime$Towns;", .methodLink RX10 87 yX9_takeClockBack, .instanceMethod yX9_takeClockBack, .selects RX9 yX9_takeClockBack yX9_takeClockBack, .initialized RX9, .code yX9_takeClockBack cX9_takeClockBack 1 (some .int), .fieldLink RX9 24 "OneTime$Towns" "clocks" "LOneTime$Since;", .fieldLink RX9 43 "OneTime$Since" "size" "I", .methodLink RX9 48 yX6_dropLast, .instanceMethod yX6_dropLast, .selects RX6 yX6_dropLast yX6_dropLast, .initialized RX6, .code yX6_dropLast cX6_dropLast 1 none, .fieldLink RX6 9 "OneTime$Since" "size" "I"] ++ wsX100 ++ wsX90 ++ wsX60)
def wsX10_count : List Cond := .code yX10_count cX10_count 2 (some .int) :: ([.fieldLink RX10 12 "OneTime" "towns" "LOneTime$Towns;", .fieldLink RX10 91 "OneTime$Towns" "size" "I", .fieldLink RX10 95 "OneTime$Towns" "clocks" "LOneTime$Since;", .fieldLink RX10 99 "OneTime$Since" "size" "I", .fieldLink RX10 19 "OneTime" "line" "LOneTime$Line;", .fieldLink RX10 102 "OneTime$Line" "stations" "I", .fieldLink RX10 105 "OneTime$Line" "trains" "I", .fieldLink RX10 40 "OneTime" "laws" "LOneTime$Laws;", .fieldLink RX10 108 "OneTime$Laws" "since" "LOneTime$Since;", .fieldLink RX10 47 "OneTime" "towers" "LOneTime$Towers;", .fieldLink RX10 111 "OneTime$Towers" "size" "I", .fieldLink RX10 61 "OneTime" "told" "LOneTime$Row;", .fieldLink RX10 112 "OneTime$Row" "size" "I", .fieldLink RX10 33 "OneTime" "tape" "LOneTime$Tape;", .fieldLink RX10 113 "OneTime$Tape" "size" "I"] ++ wsX100 ++ wsX90 ++ wsX60 ++ wsX30 ++ wsX20 ++ wsX80 ++ wsX50 ++ wsX70)
def wsX10_isMinute : List Cond := .code yX10_isMinute cX10_isMinute 1 (some .boolean) :: ([.constant RX10 257 (576000)])
def wsX10_read_r1 : List Cond := [Cond.classLink RX10 117 "java/util/NoSuchElementException", Cond.initialized "java/util/NoSuchElementException", Cond.fieldLink RX10 12 "OneTime" "towns" "LOneTime$Towns;", Cond.methodLink RX10 69 yX9_has, Cond.instanceMethod yX9_has, Cond.selects RX9 yX9_has yX9_has, Cond.initialized RX9, Cond.code yX9_has cX9_has 2 (some .boolean), Cond.fieldLink RX9 15 "OneTime$Towns" "size" "I", Cond.methodLink RX10 114 yX10_isMinute, Cond.static yX10_isMinute, Cond.initialized RX10, Cond.code yX10_isMinute cX10_isMinute 1 (some .boolean), Cond.constant RX10 257 (576000), Cond.methodLink RX10 124 yX9_readingAt, Cond.instanceMethod yX9_readingAt, Cond.selects RX9 yX9_readingAt yX9_readingAt, Cond.code yX9_readingAt cX9_readingAt 3 (some .int), Cond.methodLink RX9 55 yX9_shiftOn, Cond.instanceMethod yX9_shiftOn, Cond.selects RX9 yX9_shiftOn yX9_shiftOn, Cond.code yX9_shiftOn cX9_shiftOn 4 (some .int), Cond.fieldLink RX9 24 "OneTime$Towns" "clocks" "LOneTime$Since;", Cond.fieldLink RX9 28 "OneTime$Towns" "shifts" "[I"]
def wsX10_read_r2 : List Cond := [Cond.methodLink RX9 51 yX6_holding, Cond.instanceMethod yX6_holding, Cond.selects RX6 yX6_holding yX6_holding, Cond.initialized RX6, Cond.code yX6_holding cX6_holding 6 (some .int), Cond.fieldLink RX6 9 "OneTime$Since" "size" "I", Cond.fieldLink RX6 21 "OneTime$Since" "ofTowns" "[I", Cond.fieldLink RX6 25 "OneTime$Since" "fromDays" "[I", Cond.methodLink RX9 35 yX9_sunOf, Cond.instanceMethod yX9_sunOf, Cond.selects RX9 yX9_sunOf yX9_sunOf, Cond.code yX9_sunOf cX9_sunOf 2 (some .int), Cond.fieldLink RX9 9 "OneTime$Towns" "suns" "[I", Cond.methodLink RX9 31 yX9_has]
def wsX10_read : List Cond := .code yX10_read cX10_read 3 (some .int) :: ((wsX10_read_r1 ++ wsX10_read_r2) ++ wsX100 ++ wsX90 ++ wsX60 ++ xAt.filter goodWord)
def wsX10_when_r1 : List Cond := [Cond.fieldLink RX10 12 "OneTime" "towns" "LOneTime$Towns;", Cond.fieldLink RX10 61 "OneTime" "told" "LOneTime$Row;", Cond.fieldLink RX10 112 "OneTime$Row" "size" "I", Cond.methodLink RX10 69 yX9_has, Cond.instanceMethod yX9_has, Cond.selects RX9 yX9_has yX9_has, Cond.initialized RX9, Cond.code yX9_has cX9_has 2 (some .boolean), Cond.fieldLink RX9 15 "OneTime$Towns" "size" "I", Cond.methodLink RX10 128 yX5_clear, Cond.instanceMethod yX5_clear, Cond.selects RX5 yX5_clear yX5_clear, Cond.initialized RX5, Cond.code yX5_clear cX5_clear 1 none, Cond.fieldLink RX5 15 "OneTime$Row" "size" "I", Cond.methodLink RX10 131 yX9_firstDayNear, Cond.static yX9_firstDayNear, Cond.code yX9_firstDayNear cX9_firstDayNear 1 (some .int), Cond.constant RX9 63 (576720), Cond.methodLink RX9 58 yJ9_floorDiv_7cf53, Cond.static yJ9_floorDiv_7cf53, Cond.initialized RJ9, Cond.code yJ9_floorDiv_7cf53 cJ9_floorDiv_7cf53 3 (some .int), Cond.methodLink RX10 134 yX9_minuteShowing]
def wsX10_when_r2 : List Cond := [Cond.instanceMethod yX9_minuteShowing, Cond.selects RX9 yX9_minuteShowing yX9_minuteShowing, Cond.code yX9_minuteShowing cX9_minuteShowing 5 (some .int), Cond.static yX10_isDay, Cond.initialized RX10, Cond.code yX10_isDay cX10_isDay 1 (some .boolean), Cond.methodLink RX9 55 yX9_shiftOn, Cond.instanceMethod yX9_shiftOn, Cond.selects RX9 yX9_shiftOn yX9_shiftOn, Cond.code yX9_shiftOn cX9_shiftOn 4 (some .int), Cond.fieldLink RX9 24 "OneTime$Towns" "clocks" "LOneTime$Since;", Cond.fieldLink RX9 28 "OneTime$Towns" "shifts" "[I", Cond.methodLink RX9 51 yX6_holding, Cond.instanceMethod yX6_holding, Cond.selects RX6 yX6_holding yX6_holding, Cond.initialized RX6, Cond.code yX6_holding cX6_holding 6 (some .int), Cond.fieldLink RX6 9 "OneTime$Since" "size" "I", Cond.fieldLink RX6 21 "OneTime$Since" "ofTowns" "[I", Cond.fieldLink RX6 25 "OneTime$Since" "fromDays" "[I", Cond.methodLink RX9 35 yX9_sunOf, Cond.instanceMethod yX9_sunOf, Cond.selects RX9 yX9_sunOf yX9_sunOf, Cond.code yX9_sunOf cX9_sunOf 2 (some .int)]
def wsX10_when_r3 : List Cond := [Cond.fieldLink RX9 9 "OneTime$Towns" "suns" "[I", Cond.methodLink RX9 31 yX9_has, Cond.methodLink RX10 137 yX5_addMinute, Cond.instanceMethod yX5_addMinute, Cond.selects RX5 yX5_addMinute yX5_addMinute, Cond.code yX5_addMinute cX5_addMinute 2 none, Cond.methodLink RX5 19 yX5_add, Cond.instanceMethod yX5_add, Cond.selects RX5 yX5_add yX5_add, Cond.code yX5_add cX5_add 2 none, Cond.fieldLink RX5 9 "OneTime$Row" "numbers" "[I"]
def wsX10_when : List Cond := .code yX10_when cX10_when 4 (some .int) :: ((wsX10_when_r1 ++ (wsX10_when_r2 ++ wsX10_when_r3)) ++ wsX100 ++ wsX50 ++ wsX90 ++ wsX60)
def wsX10_turned_r1 : List Cond := [Cond.classLink RX10 117 "java/util/NoSuchElementException", Cond.initialized "java/util/NoSuchElementException", Cond.fieldLink RX10 12 "OneTime" "towns" "LOneTime$Towns;", Cond.methodLink RX10 69 yX9_has, Cond.instanceMethod yX9_has, Cond.selects RX9 yX9_has yX9_has, Cond.initialized RX9, Cond.code yX9_has cX9_has 2 (some .boolean), Cond.fieldLink RX9 15 "OneTime$Towns" "size" "I", Cond.methodLink RX10 143 yX9_firstShowing, Cond.instanceMethod yX9_firstShowing, Cond.selects RX9 yX9_firstShowing yX9_firstShowing, Cond.code yX9_firstShowing cX9_firstShowing 5 (some .int), Cond.methodLink RX9 67 yX9_firstDayNear, Cond.static yX9_firstDayNear, Cond.code yX9_firstDayNear cX9_firstDayNear 1 (some .int), Cond.constant RX9 63 (576720), Cond.methodLink RX9 58 yJ9_floorDiv_7cf53, Cond.static yJ9_floorDiv_7cf53, Cond.initialized RJ9, Cond.code yJ9_floorDiv_7cf53 cJ9_floorDiv_7cf53 3 (some .int), Cond.methodLink RX9 70 yX9_minuteShowing, Cond.instanceMethod yX9_minuteShowing, Cond.selects RX9 yX9_minuteShowing yX9_minuteShowing]
def wsX10_turned_r2 : List Cond := [Cond.code yX9_minuteShowing cX9_minuteShowing 5 (some .int), Cond.static yX10_isDay, Cond.initialized RX10, Cond.code yX10_isDay cX10_isDay 1 (some .boolean), Cond.methodLink RX9 55 yX9_shiftOn, Cond.instanceMethod yX9_shiftOn, Cond.selects RX9 yX9_shiftOn yX9_shiftOn, Cond.code yX9_shiftOn cX9_shiftOn 4 (some .int), Cond.fieldLink RX9 24 "OneTime$Towns" "clocks" "LOneTime$Since;", Cond.fieldLink RX9 28 "OneTime$Towns" "shifts" "[I", Cond.methodLink RX9 51 yX6_holding, Cond.instanceMethod yX6_holding, Cond.selects RX6 yX6_holding yX6_holding, Cond.initialized RX6, Cond.code yX6_holding cX6_holding 6 (some .int), Cond.fieldLink RX6 9 "OneTime$Since" "size" "I", Cond.fieldLink RX6 21 "OneTime$Since" "ofTowns" "[I", Cond.fieldLink RX6 25 "OneTime$Since" "fromDays" "[I", Cond.methodLink RX9 35 yX9_sunOf, Cond.instanceMethod yX9_sunOf, Cond.selects RX9 yX9_sunOf yX9_sunOf, Cond.code yX9_sunOf cX9_sunOf 2 (some .int), Cond.fieldLink RX9 9 "OneTime$Towns" "suns" "[I", Cond.methodLink RX9 31 yX9_has]
def wsX10_turned_r3 : List Cond := [Cond.methodLink RX10 124 yX9_readingAt, Cond.instanceMethod yX9_readingAt, Cond.selects RX9 yX9_readingAt yX9_readingAt, Cond.code yX9_readingAt cX9_readingAt 3 (some .int)]
def wsX10_turned : List Cond := .code yX10_turned cX10_turned 5 (some .int) :: ((wsX10_turned_r1 ++ (wsX10_turned_r2 ++ wsX10_turned_r3)) ++ wsX100 ++ wsX90 ++ wsX60 ++ xAt.filter goodWord)
def wsX10_unlike_r1 : List Cond := [Cond.fieldLink RX10 12 "OneTime" "towns" "LOneTime$Towns;", Cond.methodLink RX10 69 yX9_has, Cond.instanceMethod yX9_has, Cond.selects RX9 yX9_has yX9_has, Cond.initialized RX9, Cond.code yX9_has cX9_has 2 (some .boolean), Cond.fieldLink RX9 15 "OneTime$Towns" "size" "I", Cond.methodLink RX10 148 yX9_daysUnlike, Cond.instanceMethod yX9_daysUnlike, Cond.selects RX9 yX9_daysUnlike yX9_daysUnlike, Cond.code yX9_daysUnlike cX9_daysUnlike 7 (some .int), Cond.fieldLink RX9 24 "OneTime$Towns" "clocks" "LOneTime$Since;", Cond.methodLink RX9 77 Lib.Math.min.name, Cond.static Lib.Math.min.name, Cond.initialized "java/lang/Math", Cond.code Lib.Math.min.name Lib.Math.min.code 2 (some .int), Cond.methodLink RX9 74 yX6_nextDay, Cond.instanceMethod yX6_nextDay, Cond.selects RX6 yX6_nextDay yX6_nextDay, Cond.initialized RX6, Cond.code yX6_nextDay cX6_nextDay 5 (some .int), Cond.fieldLink RX6 9 "OneTime$Since" "size" "I", Cond.fieldLink RX6 21 "OneTime$Since" "ofTowns" "[I", Cond.fieldLink RX6 25 "OneTime$Since" "fromDays" "[I"]
def wsX10_unlike_r2 : List Cond := [Cond.methodLink RX9 55 yX9_shiftOn, Cond.instanceMethod yX9_shiftOn, Cond.selects RX9 yX9_shiftOn yX9_shiftOn, Cond.code yX9_shiftOn cX9_shiftOn 4 (some .int), Cond.fieldLink RX9 28 "OneTime$Towns" "shifts" "[I", Cond.methodLink RX9 51 yX6_holding, Cond.instanceMethod yX6_holding, Cond.selects RX6 yX6_holding yX6_holding, Cond.code yX6_holding cX6_holding 6 (some .int), Cond.methodLink RX9 35 yX9_sunOf, Cond.instanceMethod yX9_sunOf, Cond.selects RX9 yX9_sunOf yX9_sunOf, Cond.code yX9_sunOf cX9_sunOf 2 (some .int), Cond.fieldLink RX9 9 "OneTime$Towns" "suns" "[I", Cond.methodLink RX9 31 yX9_has]
def wsX10_unlike : List Cond := .code yX10_unlike cX10_unlike 3 (some .int) :: ((wsX10_unlike_r1 ++ wsX10_unlike_r2) ++ wsX100 ++ wsX90 ++ wsX60)
def wsX10_one_r1 : List Cond := [Cond.fieldLink RX10 12 "OneTime" "towns" "LOneTime$Towns;", Cond.methodLink RX10 73 yX10_isDay, Cond.static yX10_isDay, Cond.initialized RX10, Cond.code yX10_isDay cX10_isDay 1 (some .boolean), Cond.methodLink RX10 151 yX9_firstDayAlike, Cond.instanceMethod yX9_firstDayAlike, Cond.selects RX9 yX9_firstDayAlike yX9_firstDayAlike, Cond.initialized RX9, Cond.code yX9_firstDayAlike cX9_firstDayAlike 4 (some .int), Cond.fieldLink RX9 24 "OneTime$Towns" "clocks" "LOneTime$Since;", Cond.methodLink RX9 80 yX9_areAlikeOn, Cond.instanceMethod yX9_areAlikeOn, Cond.selects RX9 yX9_areAlikeOn yX9_areAlikeOn, Cond.code yX9_areAlikeOn cX9_areAlikeOn 4 (some .boolean), Cond.fieldLink RX9 15 "OneTime$Towns" "size" "I", Cond.methodLink RX9 55 yX9_shiftOn, Cond.instanceMethod yX9_shiftOn, Cond.selects RX9 yX9_shiftOn yX9_shiftOn, Cond.code yX9_shiftOn cX9_shiftOn 4 (some .int), Cond.fieldLink RX9 28 "OneTime$Towns" "shifts" "[I", Cond.methodLink RX9 51 yX6_holding, Cond.instanceMethod yX6_holding, Cond.selects RX6 yX6_holding yX6_holding]
def wsX10_one_r2 : List Cond := [Cond.initialized RX6, Cond.code yX6_holding cX6_holding 6 (some .int), Cond.fieldLink RX6 9 "OneTime$Since" "size" "I", Cond.fieldLink RX6 21 "OneTime$Since" "ofTowns" "[I", Cond.fieldLink RX6 25 "OneTime$Since" "fromDays" "[I", Cond.methodLink RX9 35 yX9_sunOf, Cond.instanceMethod yX9_sunOf, Cond.selects RX9 yX9_sunOf yX9_sunOf, Cond.code yX9_sunOf cX9_sunOf 2 (some .int), Cond.fieldLink RX9 9 "OneTime$Towns" "suns" "[I", Cond.methodLink RX9 31 yX9_has, Cond.instanceMethod yX9_has, Cond.selects RX9 yX9_has yX9_has, Cond.code yX9_has cX9_has 2 (some .boolean), Cond.methodLink RX9 83 yX6_nextDayOfAny, Cond.instanceMethod yX6_nextDayOfAny, Cond.selects RX6 yX6_nextDayOfAny yX6_nextDayOfAny, Cond.code yX6_nextDayOfAny cX6_nextDayOfAny 4 (some .int)]
def wsX10_one : List Cond := .code yX10_one cX10_one 2 (some .int) :: ((wsX10_one_r1 ++ wsX10_one_r2) ++ wsX100 ++ wsX90 ++ wsX60)
def wsX10_station : List Cond := .code yX10_station cX10_station 3 (some .int) :: ([.fieldLink RX10 12 "OneTime" "towns" "LOneTime$Towns;", .fieldLink RX10 19 "OneTime" "line" "LOneTime$Line;", .methodLink RX10 69 yX9_has, .instanceMethod yX9_has, .selects RX9 yX9_has yX9_has, .initialized RX9, .code yX9_has cX9_has 2 (some .boolean), .fieldLink RX9 15 "OneTime$Towns" "size" "I", .methodLink RX10 154 yX3_build, .instanceMethod yX3_build, .selects RX3 yX3_build yX3_build, .initialized RX3, .code yX3_build cX3_build 3 (some .int), .fieldLink RX3 9 "OneTime$Line" "stations" "I", .fieldLink RX3 22 "OneTime$Line" "trains" "I", .fieldLink RX3 19 "OneTime$Line" "ways" "[I", .fieldLink RX3 15 "OneTime$Line" "ofTowns" "[I"] ++ wsX100 ++ wsX90 ++ wsX30)
def wsX10_isTimeOfDay : List Cond := .code yX10_isTimeOfDay cX10_isTimeOfDay 1 (some .boolean) :: ([])
def wsX10_train_r1 : List Cond := [Cond.fieldLink RX10 19 "OneTime" "line" "LOneTime$Line;", Cond.fieldLink RX10 12 "OneTime" "towns" "LOneTime$Towns;", Cond.methodLink RX10 73 yX10_isDay, Cond.static yX10_isDay, Cond.initialized RX10, Cond.code yX10_isDay cX10_isDay 1 (some .boolean), Cond.methodLink RX10 157 yX10_isTimeOfDay, Cond.static yX10_isTimeOfDay, Cond.code yX10_isTimeOfDay cX10_isTimeOfDay 1 (some .boolean), Cond.methodLink RX10 160 yX3_takesTrains, Cond.instanceMethod yX3_takesTrains, Cond.selects RX3 yX3_takesTrains yX3_takesTrains, Cond.initialized RX3, Cond.code yX3_takesTrains cX3_takesTrains 1 (some .boolean), Cond.fieldLink RX3 9 "OneTime$Line" "stations" "I", Cond.fieldLink RX3 22 "OneTime$Line" "trains" "I", Cond.methodLink RX10 164 yX3_firstTown, Cond.instanceMethod yX3_firstTown, Cond.selects RX3 yX3_firstTown yX3_firstTown, Cond.code yX3_firstTown cX3_firstTown 3 (some .int), Cond.fieldLink RX3 15 "OneTime$Line" "ofTowns" "[I", Cond.methodLink RX3 38 yX3_hasStation, Cond.instanceMethod yX3_hasStation, Cond.selects RX3 yX3_hasStation yX3_hasStation]
def wsX10_train_r2 : List Cond := [Cond.code yX3_hasStation cX3_hasStation 2 (some .boolean), Cond.methodLink RX10 143 yX9_firstShowing, Cond.instanceMethod yX9_firstShowing, Cond.selects RX9 yX9_firstShowing yX9_firstShowing, Cond.initialized RX9, Cond.code yX9_firstShowing cX9_firstShowing 5 (some .int), Cond.methodLink RX9 67 yX9_firstDayNear, Cond.static yX9_firstDayNear, Cond.code yX9_firstDayNear cX9_firstDayNear 1 (some .int), Cond.constant RX9 63 (576720), Cond.methodLink RX9 58 yJ9_floorDiv_7cf53, Cond.static yJ9_floorDiv_7cf53, Cond.initialized RJ9, Cond.code yJ9_floorDiv_7cf53 cJ9_floorDiv_7cf53 3 (some .int), Cond.methodLink RX9 70 yX9_minuteShowing, Cond.instanceMethod yX9_minuteShowing, Cond.selects RX9 yX9_minuteShowing yX9_minuteShowing, Cond.code yX9_minuteShowing cX9_minuteShowing 5 (some .int), Cond.methodLink RX9 55 yX9_shiftOn, Cond.instanceMethod yX9_shiftOn, Cond.selects RX9 yX9_shiftOn yX9_shiftOn, Cond.code yX9_shiftOn cX9_shiftOn 4 (some .int), Cond.fieldLink RX9 24 "OneTime$Towns" "clocks" "LOneTime$Since;", Cond.fieldLink RX9 28 "OneTime$Towns" "shifts" "[I"]
def wsX10_train_r3 : List Cond := [Cond.methodLink RX9 51 yX6_holding, Cond.instanceMethod yX6_holding, Cond.selects RX6 yX6_holding yX6_holding, Cond.initialized RX6, Cond.code yX6_holding cX6_holding 6 (some .int), Cond.fieldLink RX6 9 "OneTime$Since" "size" "I", Cond.fieldLink RX6 21 "OneTime$Since" "ofTowns" "[I", Cond.fieldLink RX6 25 "OneTime$Since" "fromDays" "[I", Cond.methodLink RX9 35 yX9_sunOf, Cond.instanceMethod yX9_sunOf, Cond.selects RX9 yX9_sunOf yX9_sunOf, Cond.code yX9_sunOf cX9_sunOf 2 (some .int), Cond.fieldLink RX9 9 "OneTime$Towns" "suns" "[I", Cond.methodLink RX9 31 yX9_has, Cond.instanceMethod yX9_has, Cond.selects RX9 yX9_has yX9_has, Cond.code yX9_has cX9_has 2 (some .boolean), Cond.fieldLink RX9 15 "OneTime$Towns" "size" "I", Cond.methodLink RX10 168 yX3_addTrain, Cond.instanceMethod yX3_addTrain, Cond.selects RX3 yX3_addTrain yX3_addTrain, Cond.code yX3_addTrain cX3_addTrain 4 (some .int), Cond.fieldLink RX3 25 "OneTime$Line" "ups" "[Z", Cond.fieldLink RX3 29 "OneTime$Line" "starts" "[I"]
def wsX10_train_r4 : List Cond := [Cond.fieldLink RX3 32 "OneTime$Line" "stays" "[I", Cond.fieldLink RX3 35 "OneTime$Line" "delays" "[I"]
def wsX10_train : List Cond := .code yX10_train cX10_train 6 (some .int) :: ((wsX10_train_r1 ++ (wsX10_train_r2 ++ (wsX10_train_r3 ++ wsX10_train_r4))) ++ wsX100 ++ wsX30 ++ wsX90 ++ wsX60)
def wsX10_leaves : List Cond := .code yX10_leaves cX10_leaves 3 (some .int) :: ([.fieldLink RX10 19 "OneTime" "line" "LOneTime$Line;", .fieldLink RX10 181 "OneTime$Line" "delays" "[I", .methodLink RX10 172 yX3_hasTrain, .instanceMethod yX3_hasTrain, .selects RX3 yX3_hasTrain yX3_hasTrain, .initialized RX3, .code yX3_hasTrain cX3_hasTrain 2 (some .boolean), .fieldLink RX3 22 "OneTime$Line" "trains" "I", .methodLink RX10 175 yX3_hasStation, .instanceMethod yX3_hasStation, .selects RX3 yX3_hasStation yX3_hasStation, .code yX3_hasStation cX3_hasStation 2 (some .boolean), .fieldLink RX3 9 "OneTime$Line" "stations" "I", .methodLink RX10 178 yX3_plannedAt, .instanceMethod yX3_plannedAt, .selects RX3 yX3_plannedAt yX3_plannedAt, .code yX3_plannedAt cX3_plannedAt 7 (some .int), .fieldLink RX3 25 "OneTime$Line" "ups" "[Z", .fieldLink RX3 19 "OneTime$Line" "ways" "[I", .fieldLink RX3 29 "OneTime$Line" "starts" "[I", .fieldLink RX3 32 "OneTime$Line" "stays" "[I", .methodLink RX3 42 yX3_hasTrain, .methodLink RX3 38 yX3_hasStation] ++ wsX100 ++ wsX30)
def wsX10_delay : List Cond := .code yX10_delay cX10_delay 3 (some .boolean) :: ([.fieldLink RX10 19 "OneTime" "line" "LOneTime$Line;", .fieldLink RX10 181 "OneTime$Line" "delays" "[I", .methodLink RX10 172 yX3_hasTrain, .instanceMethod yX3_hasTrain, .selects RX3 yX3_hasTrain yX3_hasTrain, .initialized RX3, .code yX3_hasTrain cX3_hasTrain 2 (some .boolean), .fieldLink RX3 22 "OneTime$Line" "trains" "I"] ++ wsX100 ++ wsX30)
def wsX10_meet_r1 : List Cond := [Cond.fieldLink RX10 19 "OneTime" "line" "LOneTime$Line;", Cond.fieldLink RX10 105 "OneTime$Line" "trains" "I", Cond.fieldLink RX10 61 "OneTime" "told" "LOneTime$Row;", Cond.methodLink RX10 185 yX3_firstRunMeeting, Cond.instanceMethod yX3_firstRunMeeting, Cond.selects RX3 yX3_firstRunMeeting yX3_firstRunMeeting, Cond.initialized RX3, Cond.code yX3_firstRunMeeting cX3_firstRunMeeting 3 (some .int), Cond.fieldLink RX3 35 "OneTime$Line" "delays" "[I", Cond.methodLink RX3 42 yX3_hasTrain, Cond.instanceMethod yX3_hasTrain, Cond.selects RX3 yX3_hasTrain yX3_hasTrain, Cond.code yX3_hasTrain cX3_hasTrain 2 (some .boolean), Cond.fieldLink RX3 22 "OneTime$Line" "trains" "I", Cond.methodLink RX3 49 yX3_firstRunMeetingWith, Cond.instanceMethod yX3_firstRunMeetingWith, Cond.selects RX3 yX3_firstRunMeetingWith yX3_firstRunMeetingWith, Cond.code yX3_firstRunMeetingWith cX3_firstRunMeetingWith 6 (some .int), Cond.fieldLink RX3 9 "OneTime$Line" "stations" "I", Cond.methodLink RX3 56 Lib.Math.abs.name, Cond.static Lib.Math.abs.name, Cond.initialized "java/lang/Math", Cond.code Lib.Math.abs.name Lib.Math.abs.code 1 (some .int), Cond.methodLink RX3 53 yX3_plannedOnRun]
def wsX10_meet_r2 : List Cond := [Cond.instanceMethod yX3_plannedOnRun, Cond.selects RX3 yX3_plannedOnRun yX3_plannedOnRun, Cond.code yX3_plannedOnRun cX3_plannedOnRun 3 (some .int), Cond.fieldLink RX3 25 "OneTime$Line" "ups" "[Z", Cond.methodLink RX3 45 yX3_plannedAt, Cond.instanceMethod yX3_plannedAt, Cond.selects RX3 yX3_plannedAt yX3_plannedAt, Cond.code yX3_plannedAt cX3_plannedAt 7 (some .int), Cond.fieldLink RX3 19 "OneTime$Line" "ways" "[I", Cond.fieldLink RX3 29 "OneTime$Line" "starts" "[I", Cond.fieldLink RX3 32 "OneTime$Line" "stays" "[I", Cond.methodLink RX3 38 yX3_hasStation, Cond.instanceMethod yX3_hasStation, Cond.selects RX3 yX3_hasStation yX3_hasStation, Cond.code yX3_hasStation cX3_hasStation 2 (some .boolean), Cond.methodLink RX3 62 yX3_lengthOf, Cond.instanceMethod yX3_lengthOf, Cond.selects RX3 yX3_lengthOf yX3_lengthOf, Cond.code yX3_lengthOf cX3_lengthOf 2 (some .int), Cond.methodLink RX10 128 yX5_clear, Cond.instanceMethod yX5_clear, Cond.selects RX5 yX5_clear yX5_clear, Cond.initialized RX5, Cond.code yX5_clear cX5_clear 1 none]
def wsX10_meet_r3 : List Cond := [Cond.fieldLink RX5 15 "OneTime$Row" "size" "I", Cond.methodLink RX10 188 yX5_add, Cond.instanceMethod yX5_add, Cond.selects RX5 yX5_add yX5_add, Cond.code yX5_add cX5_add 2 none, Cond.fieldLink RX5 9 "OneTime$Row" "numbers" "[I"]
def wsX10_meet : List Cond := .code yX10_meet cX10_meet 4 (some .int) :: ((wsX10_meet_r1 ++ (wsX10_meet_r2 ++ wsX10_meet_r3)) ++ wsX100 ++ wsX30 ++ wsX50)
def wsX10_free_r1 : List Cond := [Cond.fieldLink RX10 26 "OneTime" "delaySearch" "LOneTime$DelaySearch;", Cond.fieldLink RX10 19 "OneTime" "line" "LOneTime$Line;", Cond.methodLink RX10 191 yX0_settleBest, Cond.instanceMethod yX0_settleBest, Cond.selects RX0 yX0_settleBest yX0_settleBest, Cond.initialized RX0, Cond.code yX0_settleBest cX0_settleBest 4 (some .int), Cond.fieldLink RX0 33 "OneTime$Line" "trains" "I", Cond.methodLink RX0 36 Lib.Math.min.name, Cond.static Lib.Math.min.name, Cond.initialized "java/lang/Math", Cond.code Lib.Math.min.name Lib.Math.min.code 2 (some .int), Cond.fieldLink RX0 26 "OneTime$DelaySearch" "trains" "I", Cond.fieldLink RX0 30 "OneTime$DelaySearch" "bestCost" "I", Cond.fieldLink RX0 16 "OneTime$DelaySearch" "open" "[[I", Cond.fieldLink RX0 13 "OneTime$DelaySearch" "apart" "[[I", Cond.fieldLink RX0 50 "OneTime$Line" "delays" "[I", Cond.fieldLink RX0 23 "OneTime$DelaySearch" "best" "[I", Cond.methodLink RX0 42 yX0_stepsApart, Cond.static yX0_stepsApart, Cond.code yX0_stepsApart cX0_stepsApart 5 (some .int), Cond.methodLink RX0 53 yX3_firstRunMeetingWith, Cond.instanceMethod yX3_firstRunMeetingWith, Cond.selects RX3 yX3_firstRunMeetingWith yX3_firstRunMeetingWith]
def wsX10_free_r2 : List Cond := [Cond.initialized RX3, Cond.code yX3_firstRunMeetingWith cX3_firstRunMeetingWith 6 (some .int), Cond.fieldLink RX3 9 "OneTime$Line" "stations" "I", Cond.methodLink RX3 56 Lib.Math.abs.name, Cond.static Lib.Math.abs.name, Cond.code Lib.Math.abs.name Lib.Math.abs.code 1 (some .int), Cond.methodLink RX3 53 yX3_plannedOnRun, Cond.instanceMethod yX3_plannedOnRun, Cond.selects RX3 yX3_plannedOnRun yX3_plannedOnRun, Cond.code yX3_plannedOnRun cX3_plannedOnRun 3 (some .int), Cond.fieldLink RX3 25 "OneTime$Line" "ups" "[Z", Cond.methodLink RX3 42 yX3_hasTrain, Cond.instanceMethod yX3_hasTrain, Cond.selects RX3 yX3_hasTrain yX3_hasTrain, Cond.code yX3_hasTrain cX3_hasTrain 2 (some .boolean), Cond.fieldLink RX3 22 "OneTime$Line" "trains" "I", Cond.methodLink RX3 45 yX3_plannedAt, Cond.instanceMethod yX3_plannedAt, Cond.selects RX3 yX3_plannedAt yX3_plannedAt, Cond.code yX3_plannedAt cX3_plannedAt 7 (some .int), Cond.fieldLink RX3 19 "OneTime$Line" "ways" "[I", Cond.fieldLink RX3 29 "OneTime$Line" "starts" "[I", Cond.fieldLink RX3 32 "OneTime$Line" "stays" "[I", Cond.methodLink RX3 38 yX3_hasStation]
def wsX10_free_r3 : List Cond := [Cond.instanceMethod yX3_hasStation, Cond.selects RX3 yX3_hasStation yX3_hasStation, Cond.code yX3_hasStation cX3_hasStation 2 (some .boolean), Cond.methodLink RX3 62 yX3_lengthOf, Cond.instanceMethod yX3_lengthOf, Cond.selects RX3 yX3_lengthOf yX3_lengthOf, Cond.code yX3_lengthOf cX3_lengthOf 2 (some .int), Cond.methodLink RX0 46 yX0_place, Cond.instanceMethod yX0_place, Cond.selects RX0 yX0_place yX0_place, Cond.code yX0_place cX0_place 5 none, Cond.fieldLink RX0 19 "OneTime$DelaySearch" "steps" "[I", Cond.methodLink RX0 63 yX0_keep, Cond.instanceMethod yX0_keep, Cond.selects RX0 yX0_keep yX0_keep, Cond.code yX0_keep cX0_keep 3 none, Cond.methodLink RX0 67 yX0_costOf, Cond.static yX0_costOf, Cond.code yX0_costOf cX0_costOf 1 (some .int), Cond.methodLink RX0 70 yX0_costOfOthers, Cond.instanceMethod yX0_costOfOthers, Cond.selects RX0 yX0_costOfOthers yX0_costOfOthers, Cond.code yX0_costOfOthers cX0_costOfOthers 6 (some .int), Cond.methodLink RX0 73 yX0_leastStep]
def wsX10_free_r4 : List Cond := [Cond.static yX0_leastStep, Cond.code yX0_leastStep cX0_leastStep 1 (some .int), Cond.methodLink RX0 57 yJ6_bitCount_0f7a4, Cond.static yJ6_bitCount_0f7a4, Cond.initialized RJ6, Cond.code yJ6_bitCount_0f7a4 cJ6_bitCount_0f7a4 1 (some .int), Cond.constant RJ6 265 (1431655765), Cond.constant RJ6 266 (858993459), Cond.constant RJ6 267 (252645135)]
def wsX10_free : List Cond := .code yX10_free cX10_free 1 (some .int) :: ((wsX10_free_r1 ++ (wsX10_free_r2 ++ (wsX10_free_r3 ++ wsX10_free_r4))) ++ wsX100 ++ wsX30 ++ wsX00)
def wsX10_close : List Cond := .code yX10_close cX10_close 1 (some .int) :: ([.fieldLink RX10 19 "OneTime" "line" "LOneTime$Line;", .methodLink RX10 195 yX3_clear, .instanceMethod yX3_clear, .selects RX3 yX3_clear yX3_clear, .initialized RX3, .code yX3_clear cX3_clear 2 (some .int), .fieldLink RX3 22 "OneTime$Line" "trains" "I", .fieldLink RX3 9 "OneTime$Line" "stations" "I"] ++ wsX100 ++ wsX30)
def wsX10_sign : List Cond := .code yX10_sign cX10_sign 2 (some .int) :: ([.fieldLink RX10 33 "OneTime" "tape" "LOneTime$Tape;", .methodLink RX10 197 yX7_addFour, .instanceMethod yX7_addFour, .selects RX7 yX7_addFour yX7_addFour, .initialized RX7, .code yX7_addFour cX7_addFour 3 (some .int), .fieldLink RX7 15 "OneTime$Tape" "size" "I", .fieldLink RX7 9 "OneTime$Tape" "signs" "[I"] ++ wsX100 ++ wsX70)
def wsX10_end : List Cond := .code yX10_end cX10_end 2 (some .boolean) :: ([.fieldLink RX10 33 "OneTime" "tape" "LOneTime$Tape;", .methodLink RX10 200 yX7_cut, .instanceMethod yX7_cut, .selects RX7 yX7_cut yX7_cut, .initialized RX7, .code yX7_cut cX7_cut 2 (some .boolean), .fieldLink RX7 15 "OneTime$Tape" "size" "I"] ++ wsX100 ++ wsX70)
def wsX10_law_r1 : List Cond := [Cond.fieldLink RX10 12 "OneTime" "towns" "LOneTime$Towns;", Cond.fieldLink RX10 40 "OneTime" "laws" "LOneTime$Laws;", Cond.fieldLink RX10 33 "OneTime" "tape" "LOneTime$Tape;", Cond.methodLink RX10 69 yX9_has, Cond.instanceMethod yX9_has, Cond.selects RX9 yX9_has yX9_has, Cond.initialized RX9, Cond.code yX9_has cX9_has 2 (some .boolean), Cond.fieldLink RX9 15 "OneTime$Towns" "size" "I", Cond.methodLink RX10 73 yX10_isDay, Cond.static yX10_isDay, Cond.initialized RX10, Cond.code yX10_isDay cX10_isDay 1 (some .boolean), Cond.methodLink RX10 203 yX2_isFull, Cond.instanceMethod yX2_isFull, Cond.selects RX2 yX2_isFull yX2_isFull, Cond.initialized RX2, Cond.code yX2_isFull cX2_isFull 1 (some .boolean), Cond.fieldLink RX2 14 "OneTime$Laws" "since" "LOneTime$Since;", Cond.methodLink RX2 34 yX6_isFull, Cond.instanceMethod yX6_isFull, Cond.selects RX6 yX6_isFull yX6_isFull, Cond.initialized RX6, Cond.code yX6_isFull cX6_isFull 1 (some .boolean)]
def wsX10_law_r2 : List Cond := [Cond.fieldLink RX6 9 "OneTime$Since" "size" "I", Cond.fieldLink RX6 21 "OneTime$Since" "ofTowns" "[I", Cond.methodLink RX10 206 yX2_tell, Cond.instanceMethod yX2_tell, Cond.selects RX2 yX2_tell yX2_tell, Cond.code yX2_tell cX2_tell 7 (some .int), Cond.fieldLink RX2 23 "OneTime$Laws" "reader" "LOneTime$LawReader;", Cond.fieldLink RX2 43 "OneTime$Since" "size" "I", Cond.fieldLink RX2 27 "OneTime$Laws" "times" "[I", Cond.fieldLink RX2 47 "OneTime$LawReader" "times" "[I", Cond.fieldLink RX2 31 "OneTime$Laws" "mores" "[I", Cond.fieldLink RX2 48 "OneTime$LawReader" "mores" "[I", Cond.methodLink RX2 38 yX2_isFull, Cond.methodLink RX2 39 yX1_take, Cond.instanceMethod yX1_take, Cond.selects RX1 yX1_take yX1_take, Cond.initialized RX1, Cond.code yX1_take cX1_take 4 (some .int), Cond.fieldLink RX1 18 "OneTime$LawReader" "state" "I", Cond.fieldLink RX1 9 "OneTime$LawReader" "times" "[I", Cond.fieldLink RX1 15 "OneTime$LawReader" "mores" "[I", Cond.fieldLink RX1 31 "OneTime$Tape" "size" "I", Cond.methodLink RX1 36 Lib.Math.min.name, Cond.static Lib.Math.min.name]
def wsX10_law_r3 : List Cond := [Cond.initialized "java/lang/Math", Cond.code Lib.Math.min.name Lib.Math.min.code 2 (some .int), Cond.methodLink RX1 42 yX7_signAt, Cond.instanceMethod yX7_signAt, Cond.selects RX7 yX7_signAt yX7_signAt, Cond.initialized RX7, Cond.code yX7_signAt cX7_signAt 2 (some .int), Cond.fieldLink RX7 15 "OneTime$Tape" "size" "I", Cond.fieldLink RX7 9 "OneTime$Tape" "signs" "[I", Cond.methodLink RX1 46 yX1_takeSign, Cond.instanceMethod yX1_takeSign, Cond.selects RX1 yX1_takeSign yX1_takeSign, Cond.code yX1_takeSign cX1_takeSign 2 (some .boolean), Cond.methodLink RX1 50 yX1_takeMatter, Cond.instanceMethod yX1_takeMatter, Cond.selects RX1 yX1_takeMatter yX1_takeMatter, Cond.code yX1_takeMatter cX1_takeMatter 2 (some .boolean), Cond.fieldLink RX1 22 "OneTime$LawReader" "matter" "I", Cond.methodLink RX1 53 yX1_takeMark, Cond.instanceMethod yX1_takeMark, Cond.selects RX1 yX1_takeMark yX1_takeMark, Cond.code yX1_takeMark cX1_takeMark 4 (some .boolean), Cond.methodLink RX1 57 yX1_takeTime, Cond.instanceMethod yX1_takeTime]
def wsX10_law_r4 : List Cond := [Cond.selects RX1 yX1_takeTime yX1_takeTime, Cond.code yX1_takeTime cX1_takeTime 2 (some .boolean), Cond.static yX10_isMatter, Cond.code yX10_isMatter cX10_isMatter 1 (some .boolean), Cond.methodLink RX1 60 yX1_takeDigit, Cond.instanceMethod yX1_takeDigit, Cond.selects RX1 yX1_takeDigit yX1_takeDigit, Cond.code yX1_takeDigit cX1_takeDigit 2 (some .boolean), Cond.fieldLink RX1 28 "OneTime$LawReader" "digits" "I", Cond.fieldLink RX1 25 "OneTime$LawReader" "sense" "I", Cond.methodLink RX1 63 yX1_takeSense, Cond.instanceMethod yX1_takeSense, Cond.selects RX1 yX1_takeSense yX1_takeSense, Cond.code yX1_takeSense cX1_takeSense 2 (some .boolean), Cond.methodLink RX2 49 yX6_add, Cond.instanceMethod yX6_add, Cond.selects RX6 yX6_add yX6_add, Cond.code yX6_add cX6_add 3 none, Cond.fieldLink RX6 25 "OneTime$Since" "fromDays" "[I", Cond.methodLink RX10 210 yX7_clear, Cond.instanceMethod yX7_clear, Cond.selects RX7 yX7_clear yX7_clear, Cond.code yX7_clear cX7_clear 1 none]
def wsX10_law : List Cond := .code yX10_law cX10_law 5 (some .int) :: ((wsX10_law_r1 ++ (wsX10_law_r2 ++ (wsX10_law_r3 ++ wsX10_law_r4))) ++ wsX100 ++ wsX90 ++ wsX20 ++ wsX60 ++ wsX10 ++ wsX70)
def wsX10_shiftFor_r1 : List Cond := [Cond.fieldLink RX10 12 "OneTime" "towns" "LOneTime$Towns;", Cond.fieldLink RX10 40 "OneTime" "laws" "LOneTime$Laws;", Cond.fieldLink RX10 108 "OneTime$Laws" "since" "LOneTime$Since;", Cond.fieldLink RX10 230 "OneTime$Towns" "suns" "[I", Cond.methodLink RX10 269 yX9_shiftOn, Cond.instanceMethod yX9_shiftOn, Cond.selects RX9 yX9_shiftOn yX9_shiftOn, Cond.initialized RX9, Cond.code yX9_shiftOn cX9_shiftOn 4 (some .int), Cond.fieldLink RX9 24 "OneTime$Towns" "clocks" "LOneTime$Since;", Cond.fieldLink RX9 28 "OneTime$Towns" "shifts" "[I", Cond.methodLink RX9 51 yX6_holding, Cond.instanceMethod yX6_holding, Cond.selects RX6 yX6_holding yX6_holding, Cond.initialized RX6, Cond.code yX6_holding cX6_holding 6 (some .int), Cond.fieldLink RX6 9 "OneTime$Since" "size" "I", Cond.fieldLink RX6 21 "OneTime$Since" "ofTowns" "[I", Cond.fieldLink RX6 25 "OneTime$Since" "fromDays" "[I", Cond.methodLink RX9 35 yX9_sunOf, Cond.instanceMethod yX9_sunOf, Cond.selects RX9 yX9_sunOf yX9_sunOf, Cond.code yX9_sunOf cX9_sunOf 2 (some .int), Cond.fieldLink RX9 9 "OneTime$Towns" "suns" "[I"]
def wsX10_shiftFor_r2 : List Cond := [Cond.methodLink RX9 31 yX9_has, Cond.instanceMethod yX9_has, Cond.selects RX9 yX9_has yX9_has, Cond.code yX9_has cX9_has 2 (some .boolean), Cond.fieldLink RX9 15 "OneTime$Towns" "size" "I", Cond.methodLink RX10 272 yX6_holding, Cond.methodLink RX10 275 yX2_moreOf, Cond.instanceMethod yX2_moreOf, Cond.selects RX2 yX2_moreOf yX2_moreOf, Cond.initialized RX2, Cond.code yX2_moreOf cX2_moreOf 3 (some .int), Cond.fieldLink RX2 31 "OneTime$Laws" "mores" "[I", Cond.methodLink RX2 57 yX2_has, Cond.instanceMethod yX2_has, Cond.selects RX2 yX2_has yX2_has, Cond.code yX2_has cX2_has 3 (some .boolean), Cond.fieldLink RX2 14 "OneTime$Laws" "since" "LOneTime$Since;", Cond.fieldLink RX2 43 "OneTime$Since" "size" "I", Cond.static yX10_isMatter, Cond.initialized RX10, Cond.code yX10_isMatter cX10_isMatter 1 (some .boolean), Cond.methodLink RX10 278 yX2_timeOf, Cond.instanceMethod yX2_timeOf, Cond.selects RX2 yX2_timeOf yX2_timeOf]
def wsX10_shiftFor_r3 : List Cond := [Cond.code yX2_timeOf cX2_timeOf 3 (some .int), Cond.fieldLink RX2 27 "OneTime$Laws" "times" "[I", Cond.methodLink RX10 281 yX9_nearestZone, Cond.instanceMethod yX9_nearestZone, Cond.selects RX9 yX9_nearestZone yX9_nearestZone, Cond.code yX9_nearestZone cX9_nearestZone 2 (some .int), Cond.methodLink RX9 58 yJ9_floorDiv_7cf53, Cond.static yJ9_floorDiv_7cf53, Cond.initialized RJ9, Cond.code yJ9_floorDiv_7cf53 cJ9_floorDiv_7cf53 3 (some .int)]
def wsX10_shiftFor : List Cond := .code yX10_shiftFor cX10_shiftFor 7 (some .int) :: ((wsX10_shiftFor_r1 ++ (wsX10_shiftFor_r2 ++ wsX10_shiftFor_r3)) ++ wsX100 ++ wsX20 ++ wsX90 ++ wsX60)
def wsX10_judged_r1 : List Cond := [Cond.classLink RX10 117 "java/util/NoSuchElementException", Cond.initialized "java/util/NoSuchElementException", Cond.fieldLink RX10 12 "OneTime" "towns" "LOneTime$Towns;", Cond.methodLink RX10 69 yX9_has, Cond.instanceMethod yX9_has, Cond.selects RX9 yX9_has yX9_has, Cond.initialized RX9, Cond.code yX9_has cX9_has 2 (some .boolean), Cond.fieldLink RX9 15 "OneTime$Towns" "size" "I", Cond.methodLink RX10 211 yX10_isMatter, Cond.static yX10_isMatter, Cond.initialized RX10, Cond.code yX10_isMatter cX10_isMatter 1 (some .boolean), Cond.methodLink RX10 114 yX10_isMinute, Cond.static yX10_isMinute, Cond.code yX10_isMinute cX10_isMinute 1 (some .boolean), Cond.constant RX10 257 (576000), Cond.methodLink RX10 216 yX10_shiftFor, Cond.instanceMethod yX10_shiftFor, Cond.selects RX10 yX10_shiftFor yX10_shiftFor, Cond.code yX10_shiftFor cX10_shiftFor 7 (some .int), Cond.fieldLink RX10 40 "OneTime" "laws" "LOneTime$Laws;", Cond.fieldLink RX10 108 "OneTime$Laws" "since" "LOneTime$Since;", Cond.fieldLink RX10 230 "OneTime$Towns" "suns" "[I"]
def wsX10_judged_r2 : List Cond := [Cond.methodLink RX10 269 yX9_shiftOn, Cond.instanceMethod yX9_shiftOn, Cond.selects RX9 yX9_shiftOn yX9_shiftOn, Cond.code yX9_shiftOn cX9_shiftOn 4 (some .int), Cond.fieldLink RX9 24 "OneTime$Towns" "clocks" "LOneTime$Since;", Cond.fieldLink RX9 28 "OneTime$Towns" "shifts" "[I", Cond.methodLink RX9 51 yX6_holding, Cond.instanceMethod yX6_holding, Cond.selects RX6 yX6_holding yX6_holding, Cond.initialized RX6, Cond.code yX6_holding cX6_holding 6 (some .int), Cond.fieldLink RX6 9 "OneTime$Since" "size" "I", Cond.fieldLink RX6 21 "OneTime$Since" "ofTowns" "[I", Cond.fieldLink RX6 25 "OneTime$Since" "fromDays" "[I", Cond.methodLink RX9 35 yX9_sunOf, Cond.instanceMethod yX9_sunOf, Cond.selects RX9 yX9_sunOf yX9_sunOf, Cond.code yX9_sunOf cX9_sunOf 2 (some .int), Cond.fieldLink RX9 9 "OneTime$Towns" "suns" "[I", Cond.methodLink RX9 31 yX9_has, Cond.methodLink RX10 272 yX6_holding, Cond.methodLink RX10 275 yX2_moreOf, Cond.instanceMethod yX2_moreOf, Cond.selects RX2 yX2_moreOf yX2_moreOf]
def wsX10_judged_r3 : List Cond := [Cond.initialized RX2, Cond.code yX2_moreOf cX2_moreOf 3 (some .int), Cond.fieldLink RX2 31 "OneTime$Laws" "mores" "[I", Cond.methodLink RX2 57 yX2_has, Cond.instanceMethod yX2_has, Cond.selects RX2 yX2_has yX2_has, Cond.code yX2_has cX2_has 3 (some .boolean), Cond.fieldLink RX2 14 "OneTime$Laws" "since" "LOneTime$Since;", Cond.fieldLink RX2 43 "OneTime$Since" "size" "I", Cond.methodLink RX10 278 yX2_timeOf, Cond.instanceMethod yX2_timeOf, Cond.selects RX2 yX2_timeOf yX2_timeOf, Cond.code yX2_timeOf cX2_timeOf 3 (some .int), Cond.fieldLink RX2 27 "OneTime$Laws" "times" "[I", Cond.methodLink RX10 281 yX9_nearestZone, Cond.instanceMethod yX9_nearestZone, Cond.selects RX9 yX9_nearestZone yX9_nearestZone, Cond.code yX9_nearestZone cX9_nearestZone 2 (some .int), Cond.methodLink RX9 58 yJ9_floorDiv_7cf53, Cond.static yJ9_floorDiv_7cf53, Cond.initialized RJ9, Cond.code yJ9_floorDiv_7cf53 cJ9_floorDiv_7cf53 3 (some .int)]
def wsX10_judged : List Cond := .code yX10_judged cX10_judged 4 (some .int) :: ((wsX10_judged_r1 ++ (wsX10_judged_r2 ++ wsX10_judged_r3)) ++ wsX100 ++ wsX90 ++ wsX20 ++ wsX60 ++ xAt.filter goodWord)
def wsX10_nextChange : List Cond := .code yX10_nextChange cX10_nextChange 3 (some .int) :: ([.fieldLink RX10 12 "OneTime" "towns" "LOneTime$Towns;", .fieldLink RX10 95 "OneTime$Towns" "clocks" "LOneTime$Since;", .fieldLink RX10 40 "OneTime" "laws" "LOneTime$Laws;", .fieldLink RX10 108 "OneTime$Laws" "since" "LOneTime$Since;", .methodLink RX10 222 Lib.Math.min.name, .static Lib.Math.min.name, .initialized "java/lang/Math", .code Lib.Math.min.name Lib.Math.min.code 2 (some .int), .methodLink RX10 284 yX6_nextDay, .instanceMethod yX6_nextDay, .selects RX6 yX6_nextDay yX6_nextDay, .initialized RX6, .code yX6_nextDay cX6_nextDay 5 (some .int), .fieldLink RX6 9 "OneTime$Since" "size" "I", .fieldLink RX6 21 "OneTime$Since" "ofTowns" "[I", .fieldLink RX6 25 "OneTime$Since" "fromDays" "[I"] ++ wsX100 ++ wsX90 ++ wsX20 ++ wsX60)
def wsJ9_floorMod_7cf53 : List Cond := .code yJ9_floorMod_7cf53 cJ9_floorMod_7cf53 3 (some .int) :: ([])
def wsX10_late_r1 : List Cond := [Cond.fieldLink RX10 12 "OneTime" "towns" "LOneTime$Towns;", Cond.methodLink RX10 222 Lib.Math.min.name, Cond.static Lib.Math.min.name, Cond.initialized "java/lang/Math", Cond.code Lib.Math.min.name Lib.Math.min.code 2 (some .int), Cond.methodLink RX10 69 yX9_has, Cond.instanceMethod yX9_has, Cond.selects RX9 yX9_has yX9_has, Cond.initialized RX9, Cond.code yX9_has cX9_has 2 (some .boolean), Cond.fieldLink RX9 15 "OneTime$Towns" "size" "I", Cond.methodLink RX10 211 yX10_isMatter, Cond.static yX10_isMatter, Cond.initialized RX10, Cond.code yX10_isMatter cX10_isMatter 1 (some .boolean), Cond.methodLink RX10 73 yX10_isDay, Cond.static yX10_isDay, Cond.code yX10_isDay cX10_isDay 1 (some .boolean), Cond.methodLink RX10 157 yX10_isTimeOfDay, Cond.static yX10_isTimeOfDay, Cond.code yX10_isTimeOfDay cX10_isTimeOfDay 1 (some .boolean), Cond.methodLink RX10 219 yX10_nextChange, Cond.instanceMethod yX10_nextChange, Cond.selects RX10 yX10_nextChange yX10_nextChange]
def wsX10_late_r2 : List Cond := [Cond.code yX10_nextChange cX10_nextChange 3 (some .int), Cond.fieldLink RX10 95 "OneTime$Towns" "clocks" "LOneTime$Since;", Cond.fieldLink RX10 40 "OneTime" "laws" "LOneTime$Laws;", Cond.fieldLink RX10 108 "OneTime$Laws" "since" "LOneTime$Since;", Cond.methodLink RX10 284 yX6_nextDay, Cond.instanceMethod yX6_nextDay, Cond.selects RX6 yX6_nextDay yX6_nextDay, Cond.initialized RX6, Cond.code yX6_nextDay cX6_nextDay 5 (some .int), Cond.fieldLink RX6 9 "OneTime$Since" "size" "I", Cond.fieldLink RX6 21 "OneTime$Since" "ofTowns" "[I", Cond.fieldLink RX6 25 "OneTime$Since" "fromDays" "[I", Cond.methodLink RX10 216 yX10_shiftFor, Cond.instanceMethod yX10_shiftFor, Cond.selects RX10 yX10_shiftFor yX10_shiftFor, Cond.code yX10_shiftFor cX10_shiftFor 7 (some .int), Cond.fieldLink RX10 230 "OneTime$Towns" "suns" "[I", Cond.methodLink RX10 269 yX9_shiftOn, Cond.instanceMethod yX9_shiftOn, Cond.selects RX9 yX9_shiftOn yX9_shiftOn, Cond.code yX9_shiftOn cX9_shiftOn 4 (some .int), Cond.fieldLink RX9 24 "OneTime$Towns" "clocks" "LOneTime$Since;", Cond.fieldLink RX9 28 "OneTime$Towns" "shifts" "[I", Cond.methodLink RX9 51 yX6_holding]
def wsX10_late_r3 : List Cond := [Cond.instanceMethod yX6_holding, Cond.selects RX6 yX6_holding yX6_holding, Cond.code yX6_holding cX6_holding 6 (some .int), Cond.methodLink RX9 35 yX9_sunOf, Cond.instanceMethod yX9_sunOf, Cond.selects RX9 yX9_sunOf yX9_sunOf, Cond.code yX9_sunOf cX9_sunOf 2 (some .int), Cond.fieldLink RX9 9 "OneTime$Towns" "suns" "[I", Cond.methodLink RX9 31 yX9_has, Cond.methodLink RX10 272 yX6_holding, Cond.methodLink RX10 275 yX2_moreOf, Cond.instanceMethod yX2_moreOf, Cond.selects RX2 yX2_moreOf yX2_moreOf, Cond.initialized RX2, Cond.code yX2_moreOf cX2_moreOf 3 (some .int), Cond.fieldLink RX2 31 "OneTime$Laws" "mores" "[I", Cond.methodLink RX2 57 yX2_has, Cond.instanceMethod yX2_has, Cond.selects RX2 yX2_has yX2_has, Cond.code yX2_has cX2_has 3 (some .boolean), Cond.fieldLink RX2 14 "OneTime$Laws" "since" "LOneTime$Since;", Cond.fieldLink RX2 43 "OneTime$Since" "size" "I", Cond.methodLink RX10 278 yX2_timeOf, Cond.instanceMethod yX2_timeOf]
def wsX10_late_r4 : List Cond := [Cond.selects RX2 yX2_timeOf yX2_timeOf, Cond.code yX2_timeOf cX2_timeOf 3 (some .int), Cond.fieldLink RX2 27 "OneTime$Laws" "times" "[I", Cond.methodLink RX10 281 yX9_nearestZone, Cond.instanceMethod yX9_nearestZone, Cond.selects RX9 yX9_nearestZone yX9_nearestZone, Cond.code yX9_nearestZone cX9_nearestZone 2 (some .int), Cond.methodLink RX9 58 yJ9_floorDiv_7cf53, Cond.static yJ9_floorDiv_7cf53, Cond.initialized RJ9, Cond.code yJ9_floorDiv_7cf53 cJ9_floorDiv_7cf53 3 (some .int), Cond.methodLink RX10 227 yJ9_floorMod_7cf53, Cond.static yJ9_floorMod_7cf53, Cond.code yJ9_floorMod_7cf53 cJ9_floorMod_7cf53 3 (some .int)]
def wsX10_late : List Cond := .code yX10_late cX10_late 11 (some .int) :: ((wsX10_late_r1 ++ (wsX10_late_r2 ++ (wsX10_late_r3 ++ wsX10_late_r4))) ++ wsX100 ++ wsX90 ++ wsX20 ++ wsX60)
def wsX10_tower : List Cond := .code yX10_tower cX10_tower 4 (some .int) :: ([.fieldLink RX10 12 "OneTime" "towns" "LOneTime$Towns;", .fieldLink RX10 47 "OneTime" "towers" "LOneTime$Towers;", .fieldLink RX10 230 "OneTime$Towns" "suns" "[I", .methodLink RX10 69 yX9_has, .instanceMethod yX9_has, .selects RX9 yX9_has yX9_has, .initialized RX9, .code yX9_has cX9_has 2 (some .boolean), .fieldLink RX9 15 "OneTime$Towns" "size" "I", .methodLink RX10 114 yX10_isMinute, .static yX10_isMinute, .initialized RX10, .code yX10_isMinute cX10_isMinute 1 (some .boolean), .constant RX10 257 (576000), .methodLink RX10 233 yX8_build, .instanceMethod yX8_build, .selects RX8 yX8_build yX8_build, .initialized RX8, .code yX8_build cX8_build 4 (some .int), .fieldLink RX8 9 "OneTime$Towers" "size" "I", .fieldLink RX8 15 "OneTime$Towers" "suns" "[I", .fieldLink RX8 19 "OneTime$Towers" "setMinutes" "[I", .fieldLink RX8 22 "OneTime$Towers" "drifts" "[I"] ++ wsX100 ++ wsX90 ++ wsX80)
def wsX10_error : List Cond := .code yX10_error cX10_error 3 (some .int) :: ([.classLink RX10 117 "java/util/NoSuchElementException", .initialized "java/util/NoSuchElementException", .fieldLink RX10 47 "OneTime" "towers" "LOneTime$Towers;", .methodLink RX10 114 yX10_isMinute, .static yX10_isMinute, .initialized RX10, .code yX10_isMinute cX10_isMinute 1 (some .boolean), .constant RX10 257 (576000), .methodLink RX10 235 yX8_isSetBy, .instanceMethod yX8_isSetBy, .selects RX8 yX8_isSetBy yX8_isSetBy, .initialized RX8, .code yX8_isSetBy cX8_isSetBy 3 (some .boolean), .fieldLink RX8 19 "OneTime$Towers" "setMinutes" "[I", .methodLink RX8 25 yX8_has, .instanceMethod yX8_has, .selects RX8 yX8_has yX8_has, .code yX8_has cX8_has 2 (some .boolean), .fieldLink RX8 9 "OneTime$Towers" "size" "I", .methodLink RX10 241 yX8_errorAt, .instanceMethod yX8_errorAt, .selects RX8 yX8_errorAt yX8_errorAt, .code yX8_errorAt cX8_errorAt 3 (some .int), .fieldLink RX8 22 "OneTime$Towers" "drifts" "[I"] ++ wsX100 ++ wsX80 ++ xAt.filter goodWord)
def wsX10_set_r1 : List Cond := [Cond.classLink RX10 117 "java/util/NoSuchElementException", Cond.initialized "java/util/NoSuchElementException", Cond.fieldLink RX10 47 "OneTime" "towers" "LOneTime$Towers;", Cond.fieldLink RX10 244 "OneTime$Towers" "setMinutes" "[I", Cond.methodLink RX10 114 yX10_isMinute, Cond.static yX10_isMinute, Cond.initialized RX10, Cond.code yX10_isMinute cX10_isMinute 1 (some .boolean), Cond.constant RX10 257 (576000), Cond.methodLink RX10 235 yX8_isSetBy, Cond.instanceMethod yX8_isSetBy, Cond.selects RX8 yX8_isSetBy yX8_isSetBy, Cond.initialized RX8, Cond.code yX8_isSetBy cX8_isSetBy 3 (some .boolean), Cond.fieldLink RX8 19 "OneTime$Towers" "setMinutes" "[I", Cond.methodLink RX8 25 yX8_has, Cond.instanceMethod yX8_has, Cond.selects RX8 yX8_has yX8_has, Cond.code yX8_has cX8_has 2 (some .boolean), Cond.fieldLink RX8 9 "OneTime$Towers" "size" "I", Cond.methodLink RX10 241 yX8_errorAt, Cond.instanceMethod yX8_errorAt, Cond.selects RX8 yX8_errorAt yX8_errorAt, Cond.code yX8_errorAt cX8_errorAt 3 (some .int)]
def wsX10_set_r2 : List Cond := [Cond.fieldLink RX8 22 "OneTime$Towers" "drifts" "[I"]
def wsX10_set : List Cond := .code yX10_set cX10_set 4 (some .int) :: ((wsX10_set_r1 ++ wsX10_set_r2) ++ wsX100 ++ wsX80 ++ xAt.filter goodWord)
def wsX10_round_r1 : List Cond := [Cond.fieldLink RX10 12 "OneTime" "towns" "LOneTime$Towns;", Cond.fieldLink RX10 47 "OneTime" "towers" "LOneTime$Towers;", Cond.fieldLink RX10 111 "OneTime$Towers" "size" "I", Cond.fieldLink RX10 54 "OneTime" "roundSearch" "LOneTime$RoundSearch;", Cond.fieldLink RX10 230 "OneTime$Towns" "suns" "[I", Cond.fieldLink RX10 254 "OneTime$RoundSearch" "bestEnd" "I", Cond.constant RX10 257 (576000), Cond.fieldLink RX10 61 "OneTime" "told" "LOneTime$Row;", Cond.fieldLink RX10 258 "OneTime$RoundSearch" "best" "[I", Cond.fieldLink RX10 261 "OneTime$RoundSearch" "bestWorst" "I", Cond.methodLink RX10 69 yX9_has, Cond.instanceMethod yX9_has, Cond.selects RX9 yX9_has yX9_has, Cond.initialized RX9, Cond.code yX9_has cX9_has 2 (some .boolean), Cond.fieldLink RX9 15 "OneTime$Towns" "size" "I", Cond.methodLink RX10 114 yX10_isMinute, Cond.static yX10_isMinute, Cond.initialized RX10, Cond.code yX10_isMinute cX10_isMinute 1 (some .boolean), Cond.methodLink RX10 247 yX8_areAllSetBy, Cond.instanceMethod yX8_areAllSetBy, Cond.selects RX8 yX8_areAllSetBy yX8_areAllSetBy, Cond.initialized RX8]
def wsX10_round_r2 : List Cond := [Cond.code yX8_areAllSetBy cX8_areAllSetBy 3 (some .boolean), Cond.fieldLink RX8 9 "OneTime$Towers" "size" "I", Cond.fieldLink RX8 19 "OneTime$Towers" "setMinutes" "[I", Cond.methodLink RX10 250 yX4_seek, Cond.instanceMethod yX4_seek, Cond.selects RX4 yX4_seek yX4_seek, Cond.initialized RX4, Cond.code yX4_seek cX4_seek 4 none, Cond.constant RX4 27 (2147483647), Cond.fieldLink RX4 18 "OneTime$RoundSearch" "bestWorst" "I", Cond.fieldLink RX4 22 "OneTime$RoundSearch" "bestEnd" "I", Cond.fieldLink RX4 28 "OneTime$Towers" "size" "I", Cond.methodLink RX4 33 yX4_goOn, Cond.instanceMethod yX4_goOn, Cond.selects RX4 yX4_goOn yX4_goOn, Cond.code yX4_goOn cX4_goOn 12 none, Cond.methodLink RX4 53 Lib.Math.max.name, Cond.static Lib.Math.max.name, Cond.initialized "java/lang/Math", Cond.code Lib.Math.max.name Lib.Math.max.code 2 (some .int), Cond.fieldLink RX4 9 "OneTime$RoundSearch" "order" "[I", Cond.methodLink RX4 37 yX4_keep, Cond.instanceMethod yX4_keep, Cond.selects RX4 yX4_keep yX4_keep]
def wsX10_round_r3 : List Cond := [Cond.code yX4_keep cX4_keep 5 none, Cond.fieldLink RX4 15 "OneTime$RoundSearch" "best" "[I", Cond.methodLink RX4 41 yX8_sunOf, Cond.instanceMethod yX8_sunOf, Cond.selects RX8 yX8_sunOf yX8_sunOf, Cond.code yX8_sunOf cX8_sunOf 2 (some .int), Cond.fieldLink RX8 15 "OneTime$Towers" "suns" "[I", Cond.methodLink RX8 25 yX8_has, Cond.instanceMethod yX8_has, Cond.selects RX8 yX8_has yX8_has, Cond.code yX8_has cX8_has 2 (some .boolean), Cond.methodLink RX4 45 yX4_minutesBetween, Cond.static yX4_minutesBetween, Cond.code yX4_minutesBetween cX4_minutesBetween 2 (some .int), Cond.methodLink RX4 62 Lib.Math.abs.name, Cond.static Lib.Math.abs.name, Cond.code Lib.Math.abs.name Lib.Math.abs.code 1 (some .int), Cond.methodLink RX4 49 yX4_sizeOfError, Cond.static yX4_sizeOfError, Cond.code yX4_sizeOfError cX4_sizeOfError 3 (some .int), Cond.methodLink RX4 65 yX8_errorAt, Cond.instanceMethod yX8_errorAt, Cond.selects RX8 yX8_errorAt yX8_errorAt, Cond.code yX8_errorAt cX8_errorAt 3 (some .int)]
def wsX10_round_r4 : List Cond := [Cond.fieldLink RX8 22 "OneTime$Towers" "drifts" "[I", Cond.methodLink RX4 58 yX4_canBeBetter, Cond.instanceMethod yX4_canBeBetter, Cond.selects RX4 yX4_canBeBetter yX4_canBeBetter, Cond.code yX4_canBeBetter cX4_canBeBetter 12 (some .boolean), Cond.methodLink RX4 68 Lib.Math.min.name, Cond.static Lib.Math.min.name, Cond.code Lib.Math.min.name Lib.Math.min.code 2 (some .int), Cond.methodLink RX10 128 yX5_clear, Cond.instanceMethod yX5_clear, Cond.selects RX5 yX5_clear yX5_clear, Cond.initialized RX5, Cond.code yX5_clear cX5_clear 1 none, Cond.fieldLink RX5 15 "OneTime$Row" "size" "I", Cond.methodLink RX10 188 yX5_add, Cond.instanceMethod yX5_add, Cond.selects RX5 yX5_add yX5_add, Cond.code yX5_add cX5_add 2 none, Cond.fieldLink RX5 9 "OneTime$Row" "numbers" "[I"]
def wsX10_round : List Cond := .code yX10_round cX10_round 4 (some .int) :: ((wsX10_round_r1 ++ (wsX10_round_r2 ++ (wsX10_round_r3 ++ wsX10_round_r4))) ++ wsX100 ++ wsX80 ++ wsX90 ++ wsX40 ++ wsX50)
def wsX10_row : List Cond := .code yX10_row cX10_row 2 (some .int) :: ([.classLink RX10 117 "java/util/NoSuchElementException", .initialized "java/util/NoSuchElementException", .fieldLink RX10 61 "OneTime" "told" "LOneTime$Row;", .fieldLink RX10 112 "OneTime$Row" "size" "I", .fieldLink RX10 266 "OneTime$Row" "numbers" "[I"] ++ wsX100 ++ wsX50 ++ xAt.filter goodWord)
def wsX11_init_r1 : List Cond := [Cond.methodLink RX11 3 objectInit, Cond.instanceMethod objectInit, Cond.code objectInit ⟨#[0xb1]⟩ 1 none, Cond.arrayClass .int, Cond.fieldLink RX11 9 "OneTimeModel" "sun" "[I", Cond.fieldLink RX11 13 "OneTimeModel" "clockTown" "[I", Cond.fieldLink RX11 16 "OneTimeModel" "clockDay" "[I", Cond.fieldLink RX11 19 "OneTimeModel" "clockKind" "[I", Cond.fieldLink RX11 22 "OneTimeModel" "clockArg" "[I", Cond.fieldLink RX11 25 "OneTimeModel" "row" "[I", Cond.fieldLink RX11 28 "OneTimeModel" "stationTown" "[I", Cond.fieldLink RX11 31 "OneTimeModel" "run" "[I", Cond.arrayClass .boolean, Cond.fieldLink RX11 34 "OneTimeModel" "isUp" "[Z", Cond.fieldLink RX11 38 "OneTimeModel" "start" "[I", Cond.fieldLink RX11 41 "OneTimeModel" "stay" "[I", Cond.fieldLink RX11 44 "OneTimeModel" "delay" "[I", Cond.fieldLink RX11 47 "OneTimeModel" "trial" "[I", Cond.fieldLink RX11 50 "OneTimeModel" "found" "[I", Cond.fieldLink RX11 53 "OneTimeModel" "tape" "[I", Cond.fieldLink RX11 56 "OneTimeModel" "lawTown" "[I", Cond.fieldLink RX11 59 "OneTimeModel" "lawDay" "[I", Cond.fieldLink RX11 62 "OneTimeModel" "lawOf" "[I", Cond.fieldLink RX11 65 "OneTimeModel" "lawMore" "[I"]
def wsX11_init_r2 : List Cond := [Cond.fieldLink RX11 68 "OneTimeModel" "towerTown" "[I", Cond.fieldLink RX11 71 "OneTimeModel" "setAt" "[I", Cond.fieldLink RX11 74 "OneTimeModel" "drift" "[I", Cond.fieldLink RX11 77 "OneTimeModel" "order" "[I", Cond.fieldLink RX11 80 "OneTimeModel" "best" "[I"]
def wsX11_init : List Cond := .code yX11_init cX11_init 1 none :: ((wsX11_init_r1 ++ wsX11_init_r2) ++ wsX110)
def wsX11_thrown : List Cond := .code yX11_thrown cX11_thrown 1 (some .int) :: ([.fieldLink RX11 83 "OneTimeModel" "thrown" "I"] ++ wsX110)
def wsX11_in : List Cond := .code yX11_in cX11_in 6 (some .boolean) :: ([])
def wsX11_refuse : List Cond := .code yX11_refuse cX11_refuse 1 (some .int) :: ([.fieldLink RX11 83 "OneTimeModel" "thrown" "I"] ++ wsX110)
def wsX11_isTown : List Cond := .code yX11_isTown cX11_isTown 2 (some .boolean) :: ([.fieldLink RX11 87 "OneTimeModel" "towns" "I", .methodLink RX11 90 yX11_in, .static yX11_in, .initialized RX11, .code yX11_in cX11_in 6 (some .boolean)] ++ wsX110)
def wsX11_isDay : List Cond := .code yX11_isDay cX11_isDay 1 (some .boolean) :: ([.constantLong RX11 94 (399), .methodLink RX11 90 yX11_in, .static yX11_in, .initialized RX11, .code yX11_in cX11_in 6 (some .boolean)])
def wsX11_isMinute : List Cond := .code yX11_isMinute cX11_isMinute 1 (some .boolean) :: ([.constantLong RX11 96 (575999), .methodLink RX11 90 yX11_in, .static yX11_in, .initialized RX11, .code yX11_in cX11_in 6 (some .boolean)])
def wsX11_town : List Cond := .code yX11_town cX11_town 2 (some .int) :: ([.fieldLink RX11 83 "OneTimeModel" "thrown" "I", .constantLong RX11 98 (-720), .constantLong RX11 100 (720), .fieldLink RX11 87 "OneTimeModel" "towns" "I", .fieldLink RX11 9 "OneTimeModel" "sun" "[I", .methodLink RX11 90 yX11_in, .static yX11_in, .initialized RX11, .code yX11_in cX11_in 6 (some .boolean)] ++ wsX110)
def wsX11_clock : List Cond := .code yX11_clock cX11_clock 6 (some .int) :: ([.fieldLink RX11 83 "OneTimeModel" "thrown" "I", .constantLong RX11 109 (2), .fieldLink RX11 111 "OneTimeModel" "clocks" "I", .constantLong RX11 114 (-12), .constantLong RX11 116 (12), .fieldLink RX11 13 "OneTimeModel" "clockTown" "[I", .fieldLink RX11 16 "OneTimeModel" "clockDay" "[I", .fieldLink RX11 19 "OneTimeModel" "clockKind" "[I", .fieldLink RX11 22 "OneTimeModel" "clockArg" "[I", .methodLink RX11 102 yX11_isTown, .instanceMethod yX11_isTown, .selects RX11 yX11_isTown yX11_isTown, .initialized RX11, .code yX11_isTown cX11_isTown 2 (some .boolean), .fieldLink RX11 87 "OneTimeModel" "towns" "I", .methodLink RX11 90 yX11_in, .static yX11_in, .code yX11_in cX11_in 6 (some .boolean), .methodLink RX11 106 yX11_isDay, .static yX11_isDay, .code yX11_isDay cX11_isDay 1 (some .boolean), .constantLong RX11 94 (399)] ++ wsX110)
def wsX11_untell : List Cond := .code yX11_untell cX11_untell 1 (some .int) :: ([.fieldLink RX11 83 "OneTimeModel" "thrown" "I", .fieldLink RX11 111 "OneTimeModel" "clocks" "I"] ++ wsX110)
def wsX11_ahead : List Cond := .code yX11_ahead cX11_ahead 5 (some .int) :: ([.fieldLink RX11 111 "OneTimeModel" "clocks" "I", .fieldLink RX11 13 "OneTimeModel" "clockTown" "[I", .fieldLink RX11 16 "OneTimeModel" "clockDay" "[I", .fieldLink RX11 19 "OneTimeModel" "clockKind" "[I", .fieldLink RX11 9 "OneTimeModel" "sun" "[I", .fieldLink RX11 22 "OneTimeModel" "clockArg" "[I"] ++ wsX110)
def wsX11_count : List Cond := .code yX11_count cX11_count 2 (some .int) :: ([.fieldLink RX11 83 "OneTimeModel" "thrown" "I", .fieldLink RX11 87 "OneTimeModel" "towns" "I", .fieldLink RX11 111 "OneTimeModel" "clocks" "I", .fieldLink RX11 118 "OneTimeModel" "stations" "I", .fieldLink RX11 121 "OneTimeModel" "trains" "I", .fieldLink RX11 124 "OneTimeModel" "laws" "I", .fieldLink RX11 127 "OneTimeModel" "towers" "I", .fieldLink RX11 130 "OneTimeModel" "rows" "I", .fieldLink RX11 133 "OneTimeModel" "taped" "I"] ++ wsX110)
def wsX11_read_r1 : List Cond := [Cond.fieldLink RX11 83 "OneTimeModel" "thrown" "I", Cond.methodLink RX11 102 yX11_isTown, Cond.instanceMethod yX11_isTown, Cond.selects RX11 yX11_isTown yX11_isTown, Cond.initialized RX11, Cond.code yX11_isTown cX11_isTown 2 (some .boolean), Cond.fieldLink RX11 87 "OneTimeModel" "towns" "I", Cond.methodLink RX11 90 yX11_in, Cond.static yX11_in, Cond.code yX11_in cX11_in 6 (some .boolean), Cond.methodLink RX11 136 yX11_isMinute, Cond.static yX11_isMinute, Cond.code yX11_isMinute cX11_isMinute 1 (some .boolean), Cond.constantLong RX11 96 (575999), Cond.methodLink RX11 139 yX11_ahead, Cond.instanceMethod yX11_ahead, Cond.selects RX11 yX11_ahead yX11_ahead, Cond.code yX11_ahead cX11_ahead 5 (some .int), Cond.fieldLink RX11 111 "OneTimeModel" "clocks" "I", Cond.fieldLink RX11 13 "OneTimeModel" "clockTown" "[I", Cond.fieldLink RX11 16 "OneTimeModel" "clockDay" "[I", Cond.fieldLink RX11 19 "OneTimeModel" "clockKind" "[I", Cond.fieldLink RX11 9 "OneTimeModel" "sun" "[I", Cond.fieldLink RX11 22 "OneTimeModel" "clockArg" "[I"]
def wsX11_read_r2 : List Cond := [Cond.methodLink RX11 143 yX11_refuse, Cond.instanceMethod yX11_refuse, Cond.selects RX11 yX11_refuse yX11_refuse, Cond.code yX11_refuse cX11_refuse 1 (some .int)]
def wsX11_read : List Cond := .code yX11_read cX11_read 3 (some .int) :: ((wsX11_read_r1 ++ wsX11_read_r2) ++ wsX110)
def wsX11_when : List Cond := .code yX11_when cX11_when 6 (some .int) :: ([.fieldLink RX11 83 "OneTimeModel" "thrown" "I", .fieldLink RX11 130 "OneTimeModel" "rows" "I", .constantLong RX11 147 (1440), .fieldLink RX11 25 "OneTimeModel" "row" "[I", .methodLink RX11 102 yX11_isTown, .instanceMethod yX11_isTown, .selects RX11 yX11_isTown yX11_isTown, .initialized RX11, .code yX11_isTown cX11_isTown 2 (some .boolean), .fieldLink RX11 87 "OneTimeModel" "towns" "I", .methodLink RX11 90 yX11_in, .static yX11_in, .code yX11_in cX11_in 6 (some .boolean), .methodLink RX11 139 yX11_ahead, .instanceMethod yX11_ahead, .selects RX11 yX11_ahead yX11_ahead, .code yX11_ahead cX11_ahead 5 (some .int), .fieldLink RX11 111 "OneTimeModel" "clocks" "I", .fieldLink RX11 13 "OneTimeModel" "clockTown" "[I", .fieldLink RX11 16 "OneTimeModel" "clockDay" "[I", .fieldLink RX11 19 "OneTimeModel" "clockKind" "[I", .fieldLink RX11 9 "OneTimeModel" "sun" "[I", .fieldLink RX11 22 "OneTimeModel" "clockArg" "[I"] ++ wsX110)
def wsX11_firstAt : List Cond := .code yX11_firstAt cX11_firstAt 7 (some .int) :: ([.constantLong RX11 147 (1440), .methodLink RX11 139 yX11_ahead, .instanceMethod yX11_ahead, .selects RX11 yX11_ahead yX11_ahead, .initialized RX11, .code yX11_ahead cX11_ahead 5 (some .int), .fieldLink RX11 111 "OneTimeModel" "clocks" "I", .fieldLink RX11 13 "OneTimeModel" "clockTown" "[I", .fieldLink RX11 16 "OneTimeModel" "clockDay" "[I", .fieldLink RX11 19 "OneTimeModel" "clockKind" "[I", .fieldLink RX11 9 "OneTimeModel" "sun" "[I", .fieldLink RX11 22 "OneTimeModel" "clockArg" "[I", .methodLink RX11 90 yX11_in, .static yX11_in, .code yX11_in cX11_in 6 (some .boolean)] ++ wsX110)
def wsX11_turned_r1 : List Cond := [Cond.fieldLink RX11 83 "OneTimeModel" "thrown" "I", Cond.methodLink RX11 102 yX11_isTown, Cond.instanceMethod yX11_isTown, Cond.selects RX11 yX11_isTown yX11_isTown, Cond.initialized RX11, Cond.code yX11_isTown cX11_isTown 2 (some .boolean), Cond.fieldLink RX11 87 "OneTimeModel" "towns" "I", Cond.methodLink RX11 90 yX11_in, Cond.static yX11_in, Cond.code yX11_in cX11_in 6 (some .boolean), Cond.methodLink RX11 149 yX11_firstAt, Cond.instanceMethod yX11_firstAt, Cond.selects RX11 yX11_firstAt yX11_firstAt, Cond.code yX11_firstAt cX11_firstAt 7 (some .int), Cond.constantLong RX11 147 (1440), Cond.methodLink RX11 139 yX11_ahead, Cond.instanceMethod yX11_ahead, Cond.selects RX11 yX11_ahead yX11_ahead, Cond.code yX11_ahead cX11_ahead 5 (some .int), Cond.fieldLink RX11 111 "OneTimeModel" "clocks" "I", Cond.fieldLink RX11 13 "OneTimeModel" "clockTown" "[I", Cond.fieldLink RX11 16 "OneTimeModel" "clockDay" "[I", Cond.fieldLink RX11 19 "OneTimeModel" "clockKind" "[I", Cond.fieldLink RX11 9 "OneTimeModel" "sun" "[I"]
def wsX11_turned_r2 : List Cond := [Cond.fieldLink RX11 22 "OneTimeModel" "clockArg" "[I", Cond.methodLink RX11 143 yX11_refuse, Cond.instanceMethod yX11_refuse, Cond.selects RX11 yX11_refuse yX11_refuse, Cond.code yX11_refuse cX11_refuse 1 (some .int)]
def wsX11_turned : List Cond := .code yX11_turned cX11_turned 5 (some .int) :: ((wsX11_turned_r1 ++ wsX11_turned_r2) ++ wsX110)
def wsX11_unlike : List Cond := .code yX11_unlike cX11_unlike 5 (some .int) :: ([.fieldLink RX11 83 "OneTimeModel" "thrown" "I", .methodLink RX11 102 yX11_isTown, .instanceMethod yX11_isTown, .selects RX11 yX11_isTown yX11_isTown, .initialized RX11, .code yX11_isTown cX11_isTown 2 (some .boolean), .fieldLink RX11 87 "OneTimeModel" "towns" "I", .methodLink RX11 90 yX11_in, .static yX11_in, .code yX11_in cX11_in 6 (some .boolean), .methodLink RX11 139 yX11_ahead, .instanceMethod yX11_ahead, .selects RX11 yX11_ahead yX11_ahead, .code yX11_ahead cX11_ahead 5 (some .int), .fieldLink RX11 111 "OneTimeModel" "clocks" "I", .fieldLink RX11 13 "OneTimeModel" "clockTown" "[I", .fieldLink RX11 16 "OneTimeModel" "clockDay" "[I", .fieldLink RX11 19 "OneTimeModel" "clockKind" "[I", .fieldLink RX11 9 "OneTimeModel" "sun" "[I", .fieldLink RX11 22 "OneTimeModel" "clockArg" "[I"] ++ wsX110)
def wsX11_one : List Cond := .code yX11_one cX11_one 5 (some .int) :: ([.fieldLink RX11 83 "OneTimeModel" "thrown" "I", .fieldLink RX11 87 "OneTimeModel" "towns" "I", .methodLink RX11 106 yX11_isDay, .static yX11_isDay, .initialized RX11, .code yX11_isDay cX11_isDay 1 (some .boolean), .constantLong RX11 94 (399), .methodLink RX11 90 yX11_in, .static yX11_in, .code yX11_in cX11_in 6 (some .boolean), .methodLink RX11 139 yX11_ahead, .instanceMethod yX11_ahead, .selects RX11 yX11_ahead yX11_ahead, .code yX11_ahead cX11_ahead 5 (some .int), .fieldLink RX11 111 "OneTimeModel" "clocks" "I", .fieldLink RX11 13 "OneTimeModel" "clockTown" "[I", .fieldLink RX11 16 "OneTimeModel" "clockDay" "[I", .fieldLink RX11 19 "OneTimeModel" "clockKind" "[I", .fieldLink RX11 9 "OneTimeModel" "sun" "[I", .fieldLink RX11 22 "OneTimeModel" "clockArg" "[I"] ++ wsX110)
def wsX11_station : List Cond := .code yX11_station cX11_station 3 (some .int) :: ([.fieldLink RX11 83 "OneTimeModel" "thrown" "I", .fieldLink RX11 118 "OneTimeModel" "stations" "I", .constantLong RX11 153 (600), .fieldLink RX11 121 "OneTimeModel" "trains" "I", .fieldLink RX11 28 "OneTimeModel" "stationTown" "[I", .fieldLink RX11 31 "OneTimeModel" "run" "[I", .methodLink RX11 102 yX11_isTown, .instanceMethod yX11_isTown, .selects RX11 yX11_isTown yX11_isTown, .initialized RX11, .code yX11_isTown cX11_isTown 2 (some .boolean), .fieldLink RX11 87 "OneTimeModel" "towns" "I", .methodLink RX11 90 yX11_in, .static yX11_in, .code yX11_in cX11_in 6 (some .boolean)] ++ wsX110)
def wsX11_train_r1 : List Cond := [Cond.fieldLink RX11 83 "OneTimeModel" "thrown" "I", Cond.constantLong RX11 155 (1439), Cond.constantLong RX11 157 (60), Cond.fieldLink RX11 118 "OneTimeModel" "stations" "I", Cond.fieldLink RX11 121 "OneTimeModel" "trains" "I", Cond.fieldLink RX11 28 "OneTimeModel" "stationTown" "[I", Cond.constantLong RX11 147 (1440), Cond.fieldLink RX11 34 "OneTimeModel" "isUp" "[Z", Cond.fieldLink RX11 38 "OneTimeModel" "start" "[I", Cond.fieldLink RX11 41 "OneTimeModel" "stay" "[I", Cond.fieldLink RX11 44 "OneTimeModel" "delay" "[I", Cond.methodLink RX11 106 yX11_isDay, Cond.static yX11_isDay, Cond.initialized RX11, Cond.code yX11_isDay cX11_isDay 1 (some .boolean), Cond.constantLong RX11 94 (399), Cond.methodLink RX11 90 yX11_in, Cond.static yX11_in, Cond.code yX11_in cX11_in 6 (some .boolean), Cond.methodLink RX11 149 yX11_firstAt, Cond.instanceMethod yX11_firstAt, Cond.selects RX11 yX11_firstAt yX11_firstAt, Cond.code yX11_firstAt cX11_firstAt 7 (some .int), Cond.methodLink RX11 139 yX11_ahead]
def wsX11_train_r2 : List Cond := [Cond.instanceMethod yX11_ahead, Cond.selects RX11 yX11_ahead yX11_ahead, Cond.code yX11_ahead cX11_ahead 5 (some .int), Cond.fieldLink RX11 111 "OneTimeModel" "clocks" "I", Cond.fieldLink RX11 13 "OneTimeModel" "clockTown" "[I", Cond.fieldLink RX11 16 "OneTimeModel" "clockDay" "[I", Cond.fieldLink RX11 19 "OneTimeModel" "clockKind" "[I", Cond.fieldLink RX11 9 "OneTimeModel" "sun" "[I", Cond.fieldLink RX11 22 "OneTimeModel" "clockArg" "[I"]
def wsX11_train : List Cond := .code yX11_train cX11_train 6 (some .int) :: ((wsX11_train_r1 ++ wsX11_train_r2) ++ wsX110)
def wsX11_leavesAt : List Cond := .code yX11_leavesAt cX11_leavesAt 6 (some .int) :: ([.fieldLink RX11 38 "OneTimeModel" "start" "[I", .fieldLink RX11 31 "OneTimeModel" "run" "[I", .fieldLink RX11 34 "OneTimeModel" "isUp" "[Z", .fieldLink RX11 118 "OneTimeModel" "stations" "I", .fieldLink RX11 41 "OneTimeModel" "stay" "[I"] ++ wsX110)
def wsX11_begins : List Cond := .code yX11_begins cX11_begins 4 (some .int) :: ([.fieldLink RX11 34 "OneTimeModel" "isUp" "[Z", .fieldLink RX11 118 "OneTimeModel" "stations" "I", .methodLink RX11 159 yX11_leavesAt, .instanceMethod yX11_leavesAt, .selects RX11 yX11_leavesAt yX11_leavesAt, .initialized RX11, .code yX11_leavesAt cX11_leavesAt 6 (some .int), .fieldLink RX11 38 "OneTimeModel" "start" "[I", .fieldLink RX11 31 "OneTimeModel" "run" "[I", .fieldLink RX11 41 "OneTimeModel" "stay" "[I"] ++ wsX110)
def wsX11_isTrain : List Cond := .code yX11_isTrain cX11_isTrain 2 (some .boolean) :: ([.fieldLink RX11 121 "OneTimeModel" "trains" "I", .methodLink RX11 90 yX11_in, .static yX11_in, .initialized RX11, .code yX11_in cX11_in 6 (some .boolean)] ++ wsX110)
def wsX11_leaves : List Cond := .code yX11_leaves cX11_leaves 3 (some .int) :: ([.fieldLink RX11 83 "OneTimeModel" "thrown" "I", .fieldLink RX11 118 "OneTimeModel" "stations" "I", .fieldLink RX11 34 "OneTimeModel" "isUp" "[Z", .fieldLink RX11 44 "OneTimeModel" "delay" "[I", .methodLink RX11 163 yX11_isTrain, .instanceMethod yX11_isTrain, .selects RX11 yX11_isTrain yX11_isTrain, .initialized RX11, .code yX11_isTrain cX11_isTrain 2 (some .boolean), .fieldLink RX11 121 "OneTimeModel" "trains" "I", .methodLink RX11 90 yX11_in, .static yX11_in, .code yX11_in cX11_in 6 (some .boolean), .methodLink RX11 159 yX11_leavesAt, .instanceMethod yX11_leavesAt, .selects RX11 yX11_leavesAt yX11_leavesAt, .code yX11_leavesAt cX11_leavesAt 6 (some .int), .fieldLink RX11 38 "OneTimeModel" "start" "[I", .fieldLink RX11 31 "OneTimeModel" "run" "[I", .fieldLink RX11 41 "OneTimeModel" "stay" "[I"] ++ wsX110)
def wsX11_delay : List Cond := .code yX11_delay cX11_delay 3 (some .boolean) :: ([.fieldLink RX11 83 "OneTimeModel" "thrown" "I", .constantLong RX11 166 (30), .fieldLink RX11 44 "OneTimeModel" "delay" "[I", .methodLink RX11 163 yX11_isTrain, .instanceMethod yX11_isTrain, .selects RX11 yX11_isTrain yX11_isTrain, .initialized RX11, .code yX11_isTrain cX11_isTrain 2 (some .boolean), .fieldLink RX11 121 "OneTimeModel" "trains" "I", .methodLink RX11 90 yX11_in, .static yX11_in, .code yX11_in cX11_in 6 (some .boolean)] ++ wsX110)
def wsX11_meeting : List Cond := .code yX11_meeting cX11_meeting 8 (some .int) :: ([.fieldLink RX11 118 "OneTimeModel" "stations" "I", .methodLink RX11 171 Lib.Math.max.name, .static Lib.Math.max.name, .initialized "java/lang/Math", .code Lib.Math.max.name Lib.Math.max.code 2 (some .int), .methodLink RX11 176 Lib.Math.min.name, .static Lib.Math.min.name, .code Lib.Math.min.name Lib.Math.min.code 2 (some .int), .fieldLink RX11 31 "OneTimeModel" "run" "[I", .methodLink RX11 168 yX11_begins, .instanceMethod yX11_begins, .selects RX11 yX11_begins yX11_begins, .initialized RX11, .code yX11_begins cX11_begins 4 (some .int), .fieldLink RX11 34 "OneTimeModel" "isUp" "[Z", .methodLink RX11 159 yX11_leavesAt, .instanceMethod yX11_leavesAt, .selects RX11 yX11_leavesAt yX11_leavesAt, .code yX11_leavesAt cX11_leavesAt 6 (some .int), .fieldLink RX11 38 "OneTimeModel" "start" "[I", .fieldLink RX11 41 "OneTimeModel" "stay" "[I"] ++ wsX110)
def wsX11_meet_r1 : List Cond := [Cond.fieldLink RX11 83 "OneTimeModel" "thrown" "I", Cond.fieldLink RX11 121 "OneTimeModel" "trains" "I", Cond.fieldLink RX11 44 "OneTimeModel" "delay" "[I", Cond.fieldLink RX11 130 "OneTimeModel" "rows" "I", Cond.fieldLink RX11 25 "OneTimeModel" "row" "[I", Cond.methodLink RX11 179 yX11_meeting, Cond.instanceMethod yX11_meeting, Cond.selects RX11 yX11_meeting yX11_meeting, Cond.initialized RX11, Cond.code yX11_meeting cX11_meeting 8 (some .int), Cond.fieldLink RX11 118 "OneTimeModel" "stations" "I", Cond.methodLink RX11 171 Lib.Math.max.name, Cond.static Lib.Math.max.name, Cond.initialized "java/lang/Math", Cond.code Lib.Math.max.name Lib.Math.max.code 2 (some .int), Cond.methodLink RX11 176 Lib.Math.min.name, Cond.static Lib.Math.min.name, Cond.code Lib.Math.min.name Lib.Math.min.code 2 (some .int), Cond.fieldLink RX11 31 "OneTimeModel" "run" "[I", Cond.methodLink RX11 168 yX11_begins, Cond.instanceMethod yX11_begins, Cond.selects RX11 yX11_begins yX11_begins, Cond.code yX11_begins cX11_begins 4 (some .int), Cond.fieldLink RX11 34 "OneTimeModel" "isUp" "[Z"]
def wsX11_meet_r2 : List Cond := [Cond.methodLink RX11 159 yX11_leavesAt, Cond.instanceMethod yX11_leavesAt, Cond.selects RX11 yX11_leavesAt yX11_leavesAt, Cond.code yX11_leavesAt cX11_leavesAt 6 (some .int), Cond.fieldLink RX11 38 "OneTimeModel" "start" "[I", Cond.fieldLink RX11 41 "OneTimeModel" "stay" "[I"]
def wsX11_meet : List Cond := .code yX11_meet cX11_meet 4 (some .int) :: ((wsX11_meet_r1 ++ wsX11_meet_r2) ++ wsX110)
def wsX11_delays_r1 : List Cond := [Cond.fieldLink RX11 183 "OneTimeModel" "foundMoved" "I", Cond.fieldLink RX11 186 "OneTimeModel" "foundSum" "I", Cond.fieldLink RX11 121 "OneTimeModel" "trains" "I", Cond.fieldLink RX11 50 "OneTimeModel" "found" "[I", Cond.fieldLink RX11 47 "OneTimeModel" "trial" "[I", Cond.methodLink RX11 179 yX11_meeting, Cond.instanceMethod yX11_meeting, Cond.selects RX11 yX11_meeting yX11_meeting, Cond.initialized RX11, Cond.code yX11_meeting cX11_meeting 8 (some .int), Cond.fieldLink RX11 118 "OneTimeModel" "stations" "I", Cond.methodLink RX11 171 Lib.Math.max.name, Cond.static Lib.Math.max.name, Cond.initialized "java/lang/Math", Cond.code Lib.Math.max.name Lib.Math.max.code 2 (some .int), Cond.methodLink RX11 176 Lib.Math.min.name, Cond.static Lib.Math.min.name, Cond.code Lib.Math.min.name Lib.Math.min.code 2 (some .int), Cond.fieldLink RX11 31 "OneTimeModel" "run" "[I", Cond.methodLink RX11 168 yX11_begins, Cond.instanceMethod yX11_begins, Cond.selects RX11 yX11_begins yX11_begins, Cond.code yX11_begins cX11_begins 4 (some .int), Cond.fieldLink RX11 34 "OneTimeModel" "isUp" "[Z"]
def wsX11_delays_r2 : List Cond := [Cond.methodLink RX11 159 yX11_leavesAt, Cond.instanceMethod yX11_leavesAt, Cond.selects RX11 yX11_leavesAt yX11_leavesAt, Cond.code yX11_leavesAt cX11_leavesAt 6 (some .int), Cond.fieldLink RX11 38 "OneTimeModel" "start" "[I", Cond.fieldLink RX11 41 "OneTimeModel" "stay" "[I", Cond.methodLink RX11 189 yX11_delays, Cond.instanceMethod yX11_delays, Cond.selects RX11 yX11_delays yX11_delays]
def wsX11_delays : List Cond := .code yX11_delays cX11_delays 7 none :: ((wsX11_delays_r1 ++ wsX11_delays_r2) ++ wsX110)
def wsX11_free_r1 : List Cond := [Cond.fieldLink RX11 83 "OneTimeModel" "thrown" "I", Cond.constant RX11 193 (1073741824), Cond.fieldLink RX11 183 "OneTimeModel" "foundMoved" "I", Cond.fieldLink RX11 186 "OneTimeModel" "foundSum" "I", Cond.fieldLink RX11 121 "OneTimeModel" "trains" "I", Cond.fieldLink RX11 44 "OneTimeModel" "delay" "[I", Cond.fieldLink RX11 50 "OneTimeModel" "found" "[I", Cond.methodLink RX11 189 yX11_delays, Cond.instanceMethod yX11_delays, Cond.selects RX11 yX11_delays yX11_delays, Cond.initialized RX11, Cond.code yX11_delays cX11_delays 7 none, Cond.fieldLink RX11 47 "OneTimeModel" "trial" "[I", Cond.methodLink RX11 179 yX11_meeting, Cond.instanceMethod yX11_meeting, Cond.selects RX11 yX11_meeting yX11_meeting, Cond.code yX11_meeting cX11_meeting 8 (some .int), Cond.fieldLink RX11 118 "OneTimeModel" "stations" "I", Cond.methodLink RX11 171 Lib.Math.max.name, Cond.static Lib.Math.max.name, Cond.initialized "java/lang/Math", Cond.code Lib.Math.max.name Lib.Math.max.code 2 (some .int), Cond.methodLink RX11 176 Lib.Math.min.name, Cond.static Lib.Math.min.name]
def wsX11_free_r2 : List Cond := [Cond.code Lib.Math.min.name Lib.Math.min.code 2 (some .int), Cond.fieldLink RX11 31 "OneTimeModel" "run" "[I", Cond.methodLink RX11 168 yX11_begins, Cond.instanceMethod yX11_begins, Cond.selects RX11 yX11_begins yX11_begins, Cond.code yX11_begins cX11_begins 4 (some .int), Cond.fieldLink RX11 34 "OneTimeModel" "isUp" "[Z", Cond.methodLink RX11 159 yX11_leavesAt, Cond.instanceMethod yX11_leavesAt, Cond.selects RX11 yX11_leavesAt yX11_leavesAt, Cond.code yX11_leavesAt cX11_leavesAt 6 (some .int), Cond.fieldLink RX11 38 "OneTimeModel" "start" "[I", Cond.fieldLink RX11 41 "OneTimeModel" "stay" "[I"]
def wsX11_free : List Cond := .code yX11_free cX11_free 2 (some .int) :: ((wsX11_free_r1 ++ wsX11_free_r2) ++ wsX110)
def wsX11_close : List Cond := .code yX11_close cX11_close 2 (some .int) :: ([.fieldLink RX11 83 "OneTimeModel" "thrown" "I", .fieldLink RX11 121 "OneTimeModel" "trains" "I", .fieldLink RX11 118 "OneTimeModel" "stations" "I"] ++ wsX110)
def wsX11_sign : List Cond := .code yX11_sign cX11_sign 3 (some .int) :: ([.fieldLink RX11 83 "OneTimeModel" "thrown" "I", .fieldLink RX11 133 "OneTimeModel" "taped" "I", .fieldLink RX11 53 "OneTimeModel" "tape" "[I"] ++ wsX110)
def wsX11_end : List Cond := .code yX11_end cX11_end 2 (some .boolean) :: ([.fieldLink RX11 83 "OneTimeModel" "thrown" "I", .fieldLink RX11 133 "OneTimeModel" "taped" "I", .methodLink RX11 90 yX11_in, .static yX11_in, .initialized RX11, .code yX11_in cX11_in 6 (some .boolean)] ++ wsX110)
def wsJ0_isLatin1_aae02 : List Cond := .code yJ0_isLatin1_aae02 cJ0_isLatin1_aae02 1 (some .boolean) :: ([.fieldLink RJ0 38 "java/lang/String" "COMPACT_STRINGS" "Z", .fieldLink RJ0 15 "java/lang/String" "coder" "B"])
def wsJ0_coder_7d493 : List Cond := .code yJ0_coder_7d493 cJ0_coder_7d493 1 (some .byte) :: ([.fieldLink RJ0 38 "java/lang/String" "COMPACT_STRINGS" "Z", .fieldLink RJ0 15 "java/lang/String" "coder" "B"])
def wsJ0_length_8abf5 : List Cond := .code yJ0_length_8abf5 cJ0_length_8abf5 1 (some .int) :: ([.fieldLink RJ0 9 "java/lang/String" "value" "[B", .methodLink RJ0 335 yJ0_coder_7d493, .instanceMethod yJ0_coder_7d493, .selects RJ0 yJ0_coder_7d493 yJ0_coder_7d493, .initialized RJ0, .code yJ0_coder_7d493 cJ0_coder_7d493 1 (some .byte), .fieldLink RJ0 38 "java/lang/String" "COMPACT_STRINGS" "Z", .fieldLink RJ0 15 "java/lang/String" "coder" "B"])
def wsJ1_canEncode_9a6ad : List Cond := .code yJ1_canEncode_9a6ad cJ1_canEncode_9a6ad 1 (some .boolean) :: ([])
def wsJ1_indexOfChar_4cfef : List Cond := .code yJ1_indexOfChar_4cfef cJ1_indexOfChar_4cfef 6 (some .int) :: ([])
def wsJ1_indexOf_4cfef : List Cond := .code yJ1_indexOf_4cfef cJ1_indexOf_4cfef 4 (some .int) :: ([.methodLink RJ1 92 Lib.Math.max.name, .static Lib.Math.max.name, .initialized "java/lang/Math", .code Lib.Math.max.name Lib.Math.max.code 2 (some .int), .methodLink RJ1 38 Lib.Math.min.name, .static Lib.Math.min.name, .code Lib.Math.min.name Lib.Math.min.code 2 (some .int), .methodLink RJ1 88 yJ1_canEncode_9a6ad, .static yJ1_canEncode_9a6ad, .initialized RJ1, .code yJ1_canEncode_9a6ad cJ1_canEncode_9a6ad 1 (some .boolean), .methodLink RJ1 95 yJ1_indexOfChar_4cfef, .static yJ1_indexOfChar_4cfef, .code yJ1_indexOfChar_4cfef cJ1_indexOfChar_4cfef 6 (some .int)])
def wsJ2_length_9d52b : List Cond := .code yJ2_length_9d52b cJ2_length_9d52b 1 (some .int) :: ([])
def wsJ3_checkFromToIndex_8c36e : List Cond := .code yJ3_checkFromToIndex_8c36e cJ3_checkFromToIndex_8c36e 4 (some .int) :: ([])
def wsJ0_checkBoundsBeginEnd_23922 : List Cond := .code yJ0_checkBoundsBeginEnd_23922 cJ0_checkBoundsBeginEnd_23922 3 none :: ([.fieldLink RJ0 1053 "jdk/internal/util/Preconditions" "SIOOBE_FORMATTER" "Ljava/util/function/BiFunction;", .methodLink RJ0 1062 yJ3_checkFromToIndex_8c36e, .static yJ3_checkFromToIndex_8c36e, .initialized RJ3, .code yJ3_checkFromToIndex_8c36e cJ3_checkFromToIndex_8c36e 4 (some .int)])
def wsJ2_checkBoundsBeginEnd_d044e : List Cond := .code yJ2_checkBoundsBeginEnd_d044e cJ2_checkBoundsBeginEnd_d044e 3 none :: ([.methodLink RJ2 48 yJ2_length_9d52b, .static yJ2_length_9d52b, .initialized RJ2, .code yJ2_length_9d52b cJ2_length_9d52b 1 (some .int), .methodLink RJ2 241 yJ0_checkBoundsBeginEnd_23922, .static yJ0_checkBoundsBeginEnd_23922, .initialized RJ0, .code yJ0_checkBoundsBeginEnd_23922 cJ0_checkBoundsBeginEnd_23922 3 none, .fieldLink RJ0 1053 "jdk/internal/util/Preconditions" "SIOOBE_FORMATTER" "Ljava/util/function/BiFunction;", .methodLink RJ0 1062 yJ3_checkFromToIndex_8c36e, .static yJ3_checkFromToIndex_8c36e, .initialized RJ3, .code yJ3_checkFromToIndex_8c36e cJ3_checkFromToIndex_8c36e 4 (some .int)])
def wsJ2_getChar_3b067 : List Cond := .code yJ2_getChar_3b067 cJ2_getChar_3b067 2 (some .char) :: ([.fieldLink RJ2 44 "java/lang/StringUTF16" "$assertionsDisabled" "Z", .fieldLink RJ2 59 "java/lang/StringUTF16" "HI_BYTE_SHIFT" "I", .fieldLink RJ2 63 "java/lang/StringUTF16" "LO_BYTE_SHIFT" "I", .methodLink RJ2 48 yJ2_length_9d52b, .static yJ2_length_9d52b, .initialized RJ2, .code yJ2_length_9d52b cJ2_length_9d52b 1 (some .int)])
def wsJ2_indexOfCharUnsafe_4cfef : List Cond := .code yJ2_indexOfCharUnsafe_4cfef cJ2_indexOfCharUnsafe_4cfef 5 (some .int) :: ([.methodLink RJ2 71 yJ2_getChar_3b067, .static yJ2_getChar_3b067, .initialized RJ2, .code yJ2_getChar_3b067 cJ2_getChar_3b067 2 (some .char), .fieldLink RJ2 44 "java/lang/StringUTF16" "$assertionsDisabled" "Z", .fieldLink RJ2 59 "java/lang/StringUTF16" "HI_BYTE_SHIFT" "I", .fieldLink RJ2 63 "java/lang/StringUTF16" "LO_BYTE_SHIFT" "I", .methodLink RJ2 48 yJ2_length_9d52b, .static yJ2_length_9d52b, .code yJ2_length_9d52b cJ2_length_9d52b 1 (some .int)])
def wsJ2_indexOfChar_4cfef_r1 : List Cond := [Cond.methodLink RJ2 96 yJ2_checkBoundsBeginEnd_d044e, Cond.static yJ2_checkBoundsBeginEnd_d044e, Cond.initialized RJ2, Cond.code yJ2_checkBoundsBeginEnd_d044e cJ2_checkBoundsBeginEnd_d044e 3 none, Cond.methodLink RJ2 48 yJ2_length_9d52b, Cond.static yJ2_length_9d52b, Cond.code yJ2_length_9d52b cJ2_length_9d52b 1 (some .int), Cond.methodLink RJ2 241 yJ0_checkBoundsBeginEnd_23922, Cond.static yJ0_checkBoundsBeginEnd_23922, Cond.initialized RJ0, Cond.code yJ0_checkBoundsBeginEnd_23922 cJ0_checkBoundsBeginEnd_23922 3 none, Cond.fieldLink RJ0 1053 "jdk/internal/util/Preconditions" "SIOOBE_FORMATTER" "Ljava/util/function/BiFunction;", Cond.methodLink RJ0 1062 yJ3_checkFromToIndex_8c36e, Cond.static yJ3_checkFromToIndex_8c36e, Cond.initialized RJ3, Cond.code yJ3_checkFromToIndex_8c36e cJ3_checkFromToIndex_8c36e 4 (some .int), Cond.methodLink RJ2 244 yJ2_indexOfCharUnsafe_4cfef, Cond.static yJ2_indexOfCharUnsafe_4cfef, Cond.code yJ2_indexOfCharUnsafe_4cfef cJ2_indexOfCharUnsafe_4cfef 5 (some .int), Cond.methodLink RJ2 71 yJ2_getChar_3b067, Cond.static yJ2_getChar_3b067, Cond.code yJ2_getChar_3b067 cJ2_getChar_3b067 2 (some .char), Cond.fieldLink RJ2 44 "java/lang/StringUTF16" "$assertionsDisabled" "Z", Cond.fieldLink RJ2 59 "java/lang/StringUTF16" "HI_BYTE_SHIFT" "I"]
def wsJ2_indexOfChar_4cfef_r2 : List Cond := [Cond.fieldLink RJ2 63 "java/lang/StringUTF16" "LO_BYTE_SHIFT" "I"]
def wsJ2_indexOfChar_4cfef : List Cond := .code yJ2_indexOfChar_4cfef cJ2_indexOfChar_4cfef 4 (some .int) :: ((wsJ2_indexOfChar_4cfef_r1 ++ wsJ2_indexOfChar_4cfef_r2))
def wsJ11_isValidCodePoint_9a6ad : List Cond := .code yJ11_isValidCodePoint_9a6ad cJ11_isValidCodePoint_9a6ad 2 (some .boolean) :: ([])
def wsJ11_highSurrogate_5068e : List Cond := .code yJ11_highSurrogate_5068e cJ11_highSurrogate_5068e 1 (some .char) :: ([.constant RJ11 110 (55232)])
def wsJ11_lowSurrogate_5068e : List Cond := .code yJ11_lowSurrogate_5068e cJ11_lowSurrogate_5068e 1 (some .char) :: ([.constant RJ11 76 (56320)])
def wsJ2_indexOfSupplementary_4cfef_r1 : List Cond := [Cond.methodLink RJ2 164 yJ11_isValidCodePoint_9a6ad, Cond.static yJ11_isValidCodePoint_9a6ad, Cond.initialized RJ11, Cond.code yJ11_isValidCodePoint_9a6ad cJ11_isValidCodePoint_9a6ad 2 (some .boolean), Cond.methodLink RJ2 157 yJ11_highSurrogate_5068e, Cond.static yJ11_highSurrogate_5068e, Cond.code yJ11_highSurrogate_5068e cJ11_highSurrogate_5068e 1 (some .char), Cond.constant RJ11 110 (55232), Cond.methodLink RJ2 161 yJ11_lowSurrogate_5068e, Cond.static yJ11_lowSurrogate_5068e, Cond.code yJ11_lowSurrogate_5068e cJ11_lowSurrogate_5068e 1 (some .char), Cond.constant RJ11 76 (56320), Cond.methodLink RJ2 96 yJ2_checkBoundsBeginEnd_d044e, Cond.static yJ2_checkBoundsBeginEnd_d044e, Cond.initialized RJ2, Cond.code yJ2_checkBoundsBeginEnd_d044e cJ2_checkBoundsBeginEnd_d044e 3 none, Cond.methodLink RJ2 48 yJ2_length_9d52b, Cond.static yJ2_length_9d52b, Cond.code yJ2_length_9d52b cJ2_length_9d52b 1 (some .int), Cond.methodLink RJ2 241 yJ0_checkBoundsBeginEnd_23922, Cond.static yJ0_checkBoundsBeginEnd_23922, Cond.initialized RJ0, Cond.code yJ0_checkBoundsBeginEnd_23922 cJ0_checkBoundsBeginEnd_23922 3 none, Cond.fieldLink RJ0 1053 "jdk/internal/util/Preconditions" "SIOOBE_FORMATTER" "Ljava/util/function/BiFunction;"]
def wsJ2_indexOfSupplementary_4cfef_r2 : List Cond := [Cond.methodLink RJ0 1062 yJ3_checkFromToIndex_8c36e, Cond.static yJ3_checkFromToIndex_8c36e, Cond.initialized RJ3, Cond.code yJ3_checkFromToIndex_8c36e cJ3_checkFromToIndex_8c36e 4 (some .int), Cond.methodLink RJ2 71 yJ2_getChar_3b067, Cond.static yJ2_getChar_3b067, Cond.code yJ2_getChar_3b067 cJ2_getChar_3b067 2 (some .char), Cond.fieldLink RJ2 44 "java/lang/StringUTF16" "$assertionsDisabled" "Z", Cond.fieldLink RJ2 59 "java/lang/StringUTF16" "HI_BYTE_SHIFT" "I", Cond.fieldLink RJ2 63 "java/lang/StringUTF16" "LO_BYTE_SHIFT" "I"]
def wsJ2_indexOfSupplementary_4cfef : List Cond := .code yJ2_indexOfSupplementary_4cfef cJ2_indexOfSupplementary_4cfef 7 (some .int) :: ((wsJ2_indexOfSupplementary_4cfef_r1 ++ wsJ2_indexOfSupplementary_4cfef_r2))
def wsJ2_indexOf_4cfef_r1 : List Cond := [Cond.methodLink RJ2 224 Lib.Math.max.name, Cond.static Lib.Math.max.name, Cond.initialized "java/lang/Math", Cond.code Lib.Math.max.name Lib.Math.max.code 2 (some .int), Cond.methodLink RJ2 183 Lib.Math.min.name, Cond.static Lib.Math.min.name, Cond.code Lib.Math.min.name Lib.Math.min.code 2 (some .int), Cond.constant RJ2 227 (65536), Cond.methodLink RJ2 228 yJ2_indexOfChar_4cfef, Cond.static yJ2_indexOfChar_4cfef, Cond.initialized RJ2, Cond.code yJ2_indexOfChar_4cfef cJ2_indexOfChar_4cfef 4 (some .int), Cond.methodLink RJ2 96 yJ2_checkBoundsBeginEnd_d044e, Cond.static yJ2_checkBoundsBeginEnd_d044e, Cond.code yJ2_checkBoundsBeginEnd_d044e cJ2_checkBoundsBeginEnd_d044e 3 none, Cond.methodLink RJ2 48 yJ2_length_9d52b, Cond.static yJ2_length_9d52b, Cond.code yJ2_length_9d52b cJ2_length_9d52b 1 (some .int), Cond.methodLink RJ2 241 yJ0_checkBoundsBeginEnd_23922, Cond.static yJ0_checkBoundsBeginEnd_23922, Cond.initialized RJ0, Cond.code yJ0_checkBoundsBeginEnd_23922 cJ0_checkBoundsBeginEnd_23922 3 none, Cond.fieldLink RJ0 1053 "jdk/internal/util/Preconditions" "SIOOBE_FORMATTER" "Ljava/util/function/BiFunction;", Cond.methodLink RJ0 1062 yJ3_checkFromToIndex_8c36e]
def wsJ2_indexOf_4cfef_r2 : List Cond := [Cond.static yJ3_checkFromToIndex_8c36e, Cond.initialized RJ3, Cond.code yJ3_checkFromToIndex_8c36e cJ3_checkFromToIndex_8c36e 4 (some .int), Cond.methodLink RJ2 244 yJ2_indexOfCharUnsafe_4cfef, Cond.static yJ2_indexOfCharUnsafe_4cfef, Cond.code yJ2_indexOfCharUnsafe_4cfef cJ2_indexOfCharUnsafe_4cfef 5 (some .int), Cond.methodLink RJ2 71 yJ2_getChar_3b067, Cond.static yJ2_getChar_3b067, Cond.code yJ2_getChar_3b067 cJ2_getChar_3b067 2 (some .char), Cond.fieldLink RJ2 44 "java/lang/StringUTF16" "$assertionsDisabled" "Z", Cond.fieldLink RJ2 59 "java/lang/StringUTF16" "HI_BYTE_SHIFT" "I", Cond.fieldLink RJ2 63 "java/lang/StringUTF16" "LO_BYTE_SHIFT" "I", Cond.methodLink RJ2 232 yJ2_indexOfSupplementary_4cfef, Cond.static yJ2_indexOfSupplementary_4cfef, Cond.code yJ2_indexOfSupplementary_4cfef cJ2_indexOfSupplementary_4cfef 7 (some .int), Cond.methodLink RJ2 164 yJ11_isValidCodePoint_9a6ad, Cond.static yJ11_isValidCodePoint_9a6ad, Cond.initialized RJ11, Cond.code yJ11_isValidCodePoint_9a6ad cJ11_isValidCodePoint_9a6ad 2 (some .boolean), Cond.methodLink RJ2 157 yJ11_highSurrogate_5068e, Cond.static yJ11_highSurrogate_5068e, Cond.code yJ11_highSurrogate_5068e cJ11_highSurrogate_5068e 1 (some .char), Cond.constant RJ11 110 (55232), Cond.methodLink RJ2 161 yJ11_lowSurrogate_5068e]
def wsJ2_indexOf_4cfef_r3 : List Cond := [Cond.static yJ11_lowSurrogate_5068e, Cond.code yJ11_lowSurrogate_5068e cJ11_lowSurrogate_5068e 1 (some .char), Cond.constant RJ11 76 (56320)]
def wsJ2_indexOf_4cfef : List Cond := .code yJ2_indexOf_4cfef cJ2_indexOf_4cfef 4 (some .int) :: ((wsJ2_indexOf_4cfef_r1 ++ (wsJ2_indexOf_4cfef_r2 ++ wsJ2_indexOf_4cfef_r3)))
def wsJ0_indexOf_7cf53_r1 : List Cond := [Cond.fieldLink RJ0 9 "java/lang/String" "value" "[B", Cond.methodLink RJ0 492 yJ0_isLatin1_aae02, Cond.instanceMethod yJ0_isLatin1_aae02, Cond.selects RJ0 yJ0_isLatin1_aae02 yJ0_isLatin1_aae02, Cond.initialized RJ0, Cond.code yJ0_isLatin1_aae02 cJ0_isLatin1_aae02 1 (some .boolean), Cond.fieldLink RJ0 38 "java/lang/String" "COMPACT_STRINGS" "Z", Cond.fieldLink RJ0 15 "java/lang/String" "coder" "B", Cond.methodLink RJ0 505 yJ0_length_8abf5, Cond.instanceMethod yJ0_length_8abf5, Cond.selects RJ0 yJ0_length_8abf5 yJ0_length_8abf5, Cond.code yJ0_length_8abf5 cJ0_length_8abf5 1 (some .int), Cond.methodLink RJ0 335 yJ0_coder_7d493, Cond.instanceMethod yJ0_coder_7d493, Cond.selects RJ0 yJ0_coder_7d493 yJ0_coder_7d493, Cond.code yJ0_coder_7d493 cJ0_coder_7d493 1 (some .byte), Cond.methodLink RJ0 637 yJ1_indexOf_4cfef, Cond.static yJ1_indexOf_4cfef, Cond.initialized RJ1, Cond.code yJ1_indexOf_4cfef cJ1_indexOf_4cfef 4 (some .int), Cond.methodLink RJ1 92 Lib.Math.max.name, Cond.static Lib.Math.max.name, Cond.initialized "java/lang/Math", Cond.code Lib.Math.max.name Lib.Math.max.code 2 (some .int)]
def wsJ0_indexOf_7cf53_r2 : List Cond := [Cond.methodLink RJ1 38 Lib.Math.min.name, Cond.static Lib.Math.min.name, Cond.code Lib.Math.min.name Lib.Math.min.code 2 (some .int), Cond.methodLink RJ1 88 yJ1_canEncode_9a6ad, Cond.static yJ1_canEncode_9a6ad, Cond.code yJ1_canEncode_9a6ad cJ1_canEncode_9a6ad 1 (some .boolean), Cond.methodLink RJ1 95 yJ1_indexOfChar_4cfef, Cond.static yJ1_indexOfChar_4cfef, Cond.code yJ1_indexOfChar_4cfef cJ1_indexOfChar_4cfef 6 (some .int), Cond.methodLink RJ0 640 yJ2_indexOf_4cfef, Cond.static yJ2_indexOf_4cfef, Cond.initialized RJ2, Cond.code yJ2_indexOf_4cfef cJ2_indexOf_4cfef 4 (some .int), Cond.methodLink RJ2 224 Lib.Math.max.name, Cond.methodLink RJ2 183 Lib.Math.min.name, Cond.constant RJ2 227 (65536), Cond.methodLink RJ2 228 yJ2_indexOfChar_4cfef, Cond.static yJ2_indexOfChar_4cfef, Cond.code yJ2_indexOfChar_4cfef cJ2_indexOfChar_4cfef 4 (some .int), Cond.methodLink RJ2 96 yJ2_checkBoundsBeginEnd_d044e, Cond.static yJ2_checkBoundsBeginEnd_d044e, Cond.code yJ2_checkBoundsBeginEnd_d044e cJ2_checkBoundsBeginEnd_d044e 3 none, Cond.methodLink RJ2 48 yJ2_length_9d52b, Cond.static yJ2_length_9d52b]
def wsJ0_indexOf_7cf53_r3 : List Cond := [Cond.code yJ2_length_9d52b cJ2_length_9d52b 1 (some .int), Cond.methodLink RJ2 241 yJ0_checkBoundsBeginEnd_23922, Cond.static yJ0_checkBoundsBeginEnd_23922, Cond.code yJ0_checkBoundsBeginEnd_23922 cJ0_checkBoundsBeginEnd_23922 3 none, Cond.fieldLink RJ0 1053 "jdk/internal/util/Preconditions" "SIOOBE_FORMATTER" "Ljava/util/function/BiFunction;", Cond.methodLink RJ0 1062 yJ3_checkFromToIndex_8c36e, Cond.static yJ3_checkFromToIndex_8c36e, Cond.initialized RJ3, Cond.code yJ3_checkFromToIndex_8c36e cJ3_checkFromToIndex_8c36e 4 (some .int), Cond.methodLink RJ2 244 yJ2_indexOfCharUnsafe_4cfef, Cond.static yJ2_indexOfCharUnsafe_4cfef, Cond.code yJ2_indexOfCharUnsafe_4cfef cJ2_indexOfCharUnsafe_4cfef 5 (some .int), Cond.methodLink RJ2 71 yJ2_getChar_3b067, Cond.static yJ2_getChar_3b067, Cond.code yJ2_getChar_3b067 cJ2_getChar_3b067 2 (some .char), Cond.fieldLink RJ2 44 "java/lang/StringUTF16" "$assertionsDisabled" "Z", Cond.fieldLink RJ2 59 "java/lang/StringUTF16" "HI_BYTE_SHIFT" "I", Cond.fieldLink RJ2 63 "java/lang/StringUTF16" "LO_BYTE_SHIFT" "I", Cond.methodLink RJ2 232 yJ2_indexOfSupplementary_4cfef, Cond.static yJ2_indexOfSupplementary_4cfef, Cond.code yJ2_indexOfSupplementary_4cfef cJ2_indexOfSupplementary_4cfef 7 (some .int), Cond.methodLink RJ2 164 yJ11_isValidCodePoint_9a6ad, Cond.static yJ11_isValidCodePoint_9a6ad, Cond.initialized RJ11]
def wsJ0_indexOf_7cf53_r4 : List Cond := [Cond.code yJ11_isValidCodePoint_9a6ad cJ11_isValidCodePoint_9a6ad 2 (some .boolean), Cond.methodLink RJ2 157 yJ11_highSurrogate_5068e, Cond.static yJ11_highSurrogate_5068e, Cond.code yJ11_highSurrogate_5068e cJ11_highSurrogate_5068e 1 (some .char), Cond.constant RJ11 110 (55232), Cond.methodLink RJ2 161 yJ11_lowSurrogate_5068e, Cond.static yJ11_lowSurrogate_5068e, Cond.code yJ11_lowSurrogate_5068e cJ11_lowSurrogate_5068e 1 (some .char), Cond.constant RJ11 76 (56320)]
def wsJ0_indexOf_7cf53 : List Cond := .code yJ0_indexOf_7cf53 cJ0_indexOf_7cf53 3 (some .int) :: ((wsJ0_indexOf_7cf53_r1 ++ (wsJ0_indexOf_7cf53_r2 ++ (wsJ0_indexOf_7cf53_r3 ++ wsJ0_indexOf_7cf53_r4))))
def wsJ0_indexOf_0f7a4_r1 : List Cond := [Cond.methodLink RJ0 633 yJ0_indexOf_7cf53, Cond.instanceMethod yJ0_indexOf_7cf53, Cond.selects RJ0 yJ0_indexOf_7cf53 yJ0_indexOf_7cf53, Cond.initialized RJ0, Cond.code yJ0_indexOf_7cf53 cJ0_indexOf_7cf53 3 (some .int), Cond.fieldLink RJ0 9 "java/lang/String" "value" "[B", Cond.methodLink RJ0 492 yJ0_isLatin1_aae02, Cond.instanceMethod yJ0_isLatin1_aae02, Cond.selects RJ0 yJ0_isLatin1_aae02 yJ0_isLatin1_aae02, Cond.code yJ0_isLatin1_aae02 cJ0_isLatin1_aae02 1 (some .boolean), Cond.fieldLink RJ0 38 "java/lang/String" "COMPACT_STRINGS" "Z", Cond.fieldLink RJ0 15 "java/lang/String" "coder" "B", Cond.methodLink RJ0 505 yJ0_length_8abf5, Cond.instanceMethod yJ0_length_8abf5, Cond.selects RJ0 yJ0_length_8abf5 yJ0_length_8abf5, Cond.code yJ0_length_8abf5 cJ0_length_8abf5 1 (some .int), Cond.methodLink RJ0 335 yJ0_coder_7d493, Cond.instanceMethod yJ0_coder_7d493, Cond.selects RJ0 yJ0_coder_7d493 yJ0_coder_7d493, Cond.code yJ0_coder_7d493 cJ0_coder_7d493 1 (some .byte), Cond.methodLink RJ0 637 yJ1_indexOf_4cfef, Cond.static yJ1_indexOf_4cfef, Cond.initialized RJ1, Cond.code yJ1_indexOf_4cfef cJ1_indexOf_4cfef 4 (some .int)]
def wsJ0_indexOf_0f7a4_r2 : List Cond := [Cond.methodLink RJ1 92 Lib.Math.max.name, Cond.static Lib.Math.max.name, Cond.initialized "java/lang/Math", Cond.code Lib.Math.max.name Lib.Math.max.code 2 (some .int), Cond.methodLink RJ1 38 Lib.Math.min.name, Cond.static Lib.Math.min.name, Cond.code Lib.Math.min.name Lib.Math.min.code 2 (some .int), Cond.methodLink RJ1 88 yJ1_canEncode_9a6ad, Cond.static yJ1_canEncode_9a6ad, Cond.code yJ1_canEncode_9a6ad cJ1_canEncode_9a6ad 1 (some .boolean), Cond.methodLink RJ1 95 yJ1_indexOfChar_4cfef, Cond.static yJ1_indexOfChar_4cfef, Cond.code yJ1_indexOfChar_4cfef cJ1_indexOfChar_4cfef 6 (some .int), Cond.methodLink RJ0 640 yJ2_indexOf_4cfef, Cond.static yJ2_indexOf_4cfef, Cond.initialized RJ2, Cond.code yJ2_indexOf_4cfef cJ2_indexOf_4cfef 4 (some .int), Cond.methodLink RJ2 224 Lib.Math.max.name, Cond.methodLink RJ2 183 Lib.Math.min.name, Cond.constant RJ2 227 (65536), Cond.methodLink RJ2 228 yJ2_indexOfChar_4cfef, Cond.static yJ2_indexOfChar_4cfef, Cond.code yJ2_indexOfChar_4cfef cJ2_indexOfChar_4cfef 4 (some .int), Cond.methodLink RJ2 96 yJ2_checkBoundsBeginEnd_d044e]
def wsJ0_indexOf_0f7a4_r3 : List Cond := [Cond.static yJ2_checkBoundsBeginEnd_d044e, Cond.code yJ2_checkBoundsBeginEnd_d044e cJ2_checkBoundsBeginEnd_d044e 3 none, Cond.methodLink RJ2 48 yJ2_length_9d52b, Cond.static yJ2_length_9d52b, Cond.code yJ2_length_9d52b cJ2_length_9d52b 1 (some .int), Cond.methodLink RJ2 241 yJ0_checkBoundsBeginEnd_23922, Cond.static yJ0_checkBoundsBeginEnd_23922, Cond.code yJ0_checkBoundsBeginEnd_23922 cJ0_checkBoundsBeginEnd_23922 3 none, Cond.fieldLink RJ0 1053 "jdk/internal/util/Preconditions" "SIOOBE_FORMATTER" "Ljava/util/function/BiFunction;", Cond.methodLink RJ0 1062 yJ3_checkFromToIndex_8c36e, Cond.static yJ3_checkFromToIndex_8c36e, Cond.initialized RJ3, Cond.code yJ3_checkFromToIndex_8c36e cJ3_checkFromToIndex_8c36e 4 (some .int), Cond.methodLink RJ2 244 yJ2_indexOfCharUnsafe_4cfef, Cond.static yJ2_indexOfCharUnsafe_4cfef, Cond.code yJ2_indexOfCharUnsafe_4cfef cJ2_indexOfCharUnsafe_4cfef 5 (some .int), Cond.methodLink RJ2 71 yJ2_getChar_3b067, Cond.static yJ2_getChar_3b067, Cond.code yJ2_getChar_3b067 cJ2_getChar_3b067 2 (some .char), Cond.fieldLink RJ2 44 "java/lang/StringUTF16" "$assertionsDisabled" "Z", Cond.fieldLink RJ2 59 "java/lang/StringUTF16" "HI_BYTE_SHIFT" "I", Cond.fieldLink RJ2 63 "java/lang/StringUTF16" "LO_BYTE_SHIFT" "I", Cond.methodLink RJ2 232 yJ2_indexOfSupplementary_4cfef, Cond.static yJ2_indexOfSupplementary_4cfef]
def wsJ0_indexOf_0f7a4_r4 : List Cond := [Cond.code yJ2_indexOfSupplementary_4cfef cJ2_indexOfSupplementary_4cfef 7 (some .int), Cond.methodLink RJ2 164 yJ11_isValidCodePoint_9a6ad, Cond.static yJ11_isValidCodePoint_9a6ad, Cond.initialized RJ11, Cond.code yJ11_isValidCodePoint_9a6ad cJ11_isValidCodePoint_9a6ad 2 (some .boolean), Cond.methodLink RJ2 157 yJ11_highSurrogate_5068e, Cond.static yJ11_highSurrogate_5068e, Cond.code yJ11_highSurrogate_5068e cJ11_highSurrogate_5068e 1 (some .char), Cond.constant RJ11 110 (55232), Cond.methodLink RJ2 161 yJ11_lowSurrogate_5068e, Cond.static yJ11_lowSurrogate_5068e, Cond.code yJ11_lowSurrogate_5068e cJ11_lowSurrogate_5068e 1 (some .char), Cond.constant RJ11 76 (56320)]
def wsJ0_indexOf_0f7a4 : List Cond := .code yJ0_indexOf_0f7a4 cJ0_indexOf_0f7a4 2 (some .int) :: ((wsJ0_indexOf_0f7a4_r1 ++ (wsJ0_indexOf_0f7a4_r2 ++ (wsJ0_indexOf_0f7a4_r3 ++ wsJ0_indexOf_0f7a4_r4))))
def wsX11_isSign_r1 : List Cond := [Cond.fieldLink RX11 194 "OneTimeModel" "at" "I", Cond.fieldLink RX11 53 "OneTimeModel" "tape" "[I", Cond.methodLink RX11 197 yJ0_indexOf_0f7a4, Cond.instanceMethod yJ0_indexOf_0f7a4, Cond.selects RJ0 yJ0_indexOf_0f7a4 yJ0_indexOf_0f7a4, Cond.initialized RJ0, Cond.code yJ0_indexOf_0f7a4 cJ0_indexOf_0f7a4 2 (some .int), Cond.methodLink RJ0 633 yJ0_indexOf_7cf53, Cond.instanceMethod yJ0_indexOf_7cf53, Cond.selects RJ0 yJ0_indexOf_7cf53 yJ0_indexOf_7cf53, Cond.code yJ0_indexOf_7cf53 cJ0_indexOf_7cf53 3 (some .int), Cond.fieldLink RJ0 9 "java/lang/String" "value" "[B", Cond.methodLink RJ0 492 yJ0_isLatin1_aae02, Cond.instanceMethod yJ0_isLatin1_aae02, Cond.selects RJ0 yJ0_isLatin1_aae02 yJ0_isLatin1_aae02, Cond.code yJ0_isLatin1_aae02 cJ0_isLatin1_aae02 1 (some .boolean), Cond.fieldLink RJ0 38 "java/lang/String" "COMPACT_STRINGS" "Z", Cond.fieldLink RJ0 15 "java/lang/String" "coder" "B", Cond.methodLink RJ0 505 yJ0_length_8abf5, Cond.instanceMethod yJ0_length_8abf5, Cond.selects RJ0 yJ0_length_8abf5 yJ0_length_8abf5, Cond.code yJ0_length_8abf5 cJ0_length_8abf5 1 (some .int), Cond.methodLink RJ0 335 yJ0_coder_7d493, Cond.instanceMethod yJ0_coder_7d493]
def wsX11_isSign_r2 : List Cond := [Cond.selects RJ0 yJ0_coder_7d493 yJ0_coder_7d493, Cond.code yJ0_coder_7d493 cJ0_coder_7d493 1 (some .byte), Cond.methodLink RJ0 637 yJ1_indexOf_4cfef, Cond.static yJ1_indexOf_4cfef, Cond.initialized RJ1, Cond.code yJ1_indexOf_4cfef cJ1_indexOf_4cfef 4 (some .int), Cond.methodLink RJ1 92 Lib.Math.max.name, Cond.static Lib.Math.max.name, Cond.initialized "java/lang/Math", Cond.code Lib.Math.max.name Lib.Math.max.code 2 (some .int), Cond.methodLink RJ1 38 Lib.Math.min.name, Cond.static Lib.Math.min.name, Cond.code Lib.Math.min.name Lib.Math.min.code 2 (some .int), Cond.methodLink RJ1 88 yJ1_canEncode_9a6ad, Cond.static yJ1_canEncode_9a6ad, Cond.code yJ1_canEncode_9a6ad cJ1_canEncode_9a6ad 1 (some .boolean), Cond.methodLink RJ1 95 yJ1_indexOfChar_4cfef, Cond.static yJ1_indexOfChar_4cfef, Cond.code yJ1_indexOfChar_4cfef cJ1_indexOfChar_4cfef 6 (some .int), Cond.methodLink RJ0 640 yJ2_indexOf_4cfef, Cond.static yJ2_indexOf_4cfef, Cond.initialized RJ2, Cond.code yJ2_indexOf_4cfef cJ2_indexOf_4cfef 4 (some .int), Cond.methodLink RJ2 224 Lib.Math.max.name]
def wsX11_isSign_r3 : List Cond := [Cond.methodLink RJ2 183 Lib.Math.min.name, Cond.constant RJ2 227 (65536), Cond.methodLink RJ2 228 yJ2_indexOfChar_4cfef, Cond.static yJ2_indexOfChar_4cfef, Cond.code yJ2_indexOfChar_4cfef cJ2_indexOfChar_4cfef 4 (some .int), Cond.methodLink RJ2 96 yJ2_checkBoundsBeginEnd_d044e, Cond.static yJ2_checkBoundsBeginEnd_d044e, Cond.code yJ2_checkBoundsBeginEnd_d044e cJ2_checkBoundsBeginEnd_d044e 3 none, Cond.methodLink RJ2 48 yJ2_length_9d52b, Cond.static yJ2_length_9d52b, Cond.code yJ2_length_9d52b cJ2_length_9d52b 1 (some .int), Cond.methodLink RJ2 241 yJ0_checkBoundsBeginEnd_23922, Cond.static yJ0_checkBoundsBeginEnd_23922, Cond.code yJ0_checkBoundsBeginEnd_23922 cJ0_checkBoundsBeginEnd_23922 3 none, Cond.fieldLink RJ0 1053 "jdk/internal/util/Preconditions" "SIOOBE_FORMATTER" "Ljava/util/function/BiFunction;", Cond.methodLink RJ0 1062 yJ3_checkFromToIndex_8c36e, Cond.static yJ3_checkFromToIndex_8c36e, Cond.initialized RJ3, Cond.code yJ3_checkFromToIndex_8c36e cJ3_checkFromToIndex_8c36e 4 (some .int), Cond.methodLink RJ2 244 yJ2_indexOfCharUnsafe_4cfef, Cond.static yJ2_indexOfCharUnsafe_4cfef, Cond.code yJ2_indexOfCharUnsafe_4cfef cJ2_indexOfCharUnsafe_4cfef 5 (some .int), Cond.methodLink RJ2 71 yJ2_getChar_3b067, Cond.static yJ2_getChar_3b067]
def wsX11_isSign_r4 : List Cond := [Cond.code yJ2_getChar_3b067 cJ2_getChar_3b067 2 (some .char), Cond.fieldLink RJ2 44 "java/lang/StringUTF16" "$assertionsDisabled" "Z", Cond.fieldLink RJ2 59 "java/lang/StringUTF16" "HI_BYTE_SHIFT" "I", Cond.fieldLink RJ2 63 "java/lang/StringUTF16" "LO_BYTE_SHIFT" "I", Cond.methodLink RJ2 232 yJ2_indexOfSupplementary_4cfef, Cond.static yJ2_indexOfSupplementary_4cfef, Cond.code yJ2_indexOfSupplementary_4cfef cJ2_indexOfSupplementary_4cfef 7 (some .int), Cond.methodLink RJ2 164 yJ11_isValidCodePoint_9a6ad, Cond.static yJ11_isValidCodePoint_9a6ad, Cond.initialized RJ11, Cond.code yJ11_isValidCodePoint_9a6ad cJ11_isValidCodePoint_9a6ad 2 (some .boolean), Cond.methodLink RJ2 157 yJ11_highSurrogate_5068e, Cond.static yJ11_highSurrogate_5068e, Cond.code yJ11_highSurrogate_5068e cJ11_highSurrogate_5068e 1 (some .char), Cond.constant RJ11 110 (55232), Cond.methodLink RJ2 161 yJ11_lowSurrogate_5068e, Cond.static yJ11_lowSurrogate_5068e, Cond.code yJ11_lowSurrogate_5068e cJ11_lowSurrogate_5068e 1 (some .char), Cond.constant RJ11 76 (56320)]
def wsX11_isSign : List Cond := .code yX11_isSign cX11_isSign 3 (some .boolean) :: ((wsX11_isSign_r1 ++ (wsX11_isSign_r2 ++ (wsX11_isSign_r3 ++ wsX11_isSign_r4))) ++ wsX110)
def wsX11_item_r1 : List Cond := [Cond.fieldLink RX11 124 "OneTimeModel" "laws" "I", Cond.fieldLink RX11 53 "OneTimeModel" "tape" "[I", Cond.fieldLink RX11 194 "OneTimeModel" "at" "I", Cond.fieldLink RX11 62 "OneTimeModel" "lawOf" "[I", Cond.fieldLink RX11 65 "OneTimeModel" "lawMore" "[I", Cond.methodLink RX11 205 yX11_isSign, Cond.instanceMethod yX11_isSign, Cond.selects RX11 yX11_isSign yX11_isSign, Cond.initialized RX11, Cond.code yX11_isSign cX11_isSign 3 (some .boolean), Cond.methodLink RX11 197 yJ0_indexOf_0f7a4, Cond.instanceMethod yJ0_indexOf_0f7a4, Cond.selects RJ0 yJ0_indexOf_0f7a4 yJ0_indexOf_0f7a4, Cond.initialized RJ0, Cond.code yJ0_indexOf_0f7a4 cJ0_indexOf_0f7a4 2 (some .int), Cond.methodLink RJ0 633 yJ0_indexOf_7cf53, Cond.instanceMethod yJ0_indexOf_7cf53, Cond.selects RJ0 yJ0_indexOf_7cf53 yJ0_indexOf_7cf53, Cond.code yJ0_indexOf_7cf53 cJ0_indexOf_7cf53 3 (some .int), Cond.fieldLink RJ0 9 "java/lang/String" "value" "[B", Cond.methodLink RJ0 492 yJ0_isLatin1_aae02, Cond.instanceMethod yJ0_isLatin1_aae02, Cond.selects RJ0 yJ0_isLatin1_aae02 yJ0_isLatin1_aae02, Cond.code yJ0_isLatin1_aae02 cJ0_isLatin1_aae02 1 (some .boolean)]
def wsX11_item_r2 : List Cond := [Cond.fieldLink RJ0 38 "java/lang/String" "COMPACT_STRINGS" "Z", Cond.fieldLink RJ0 15 "java/lang/String" "coder" "B", Cond.methodLink RJ0 505 yJ0_length_8abf5, Cond.instanceMethod yJ0_length_8abf5, Cond.selects RJ0 yJ0_length_8abf5 yJ0_length_8abf5, Cond.code yJ0_length_8abf5 cJ0_length_8abf5 1 (some .int), Cond.methodLink RJ0 335 yJ0_coder_7d493, Cond.instanceMethod yJ0_coder_7d493, Cond.selects RJ0 yJ0_coder_7d493 yJ0_coder_7d493, Cond.code yJ0_coder_7d493 cJ0_coder_7d493 1 (some .byte), Cond.methodLink RJ0 637 yJ1_indexOf_4cfef, Cond.static yJ1_indexOf_4cfef, Cond.initialized RJ1, Cond.code yJ1_indexOf_4cfef cJ1_indexOf_4cfef 4 (some .int), Cond.methodLink RJ1 92 Lib.Math.max.name, Cond.static Lib.Math.max.name, Cond.initialized "java/lang/Math", Cond.code Lib.Math.max.name Lib.Math.max.code 2 (some .int), Cond.methodLink RJ1 38 Lib.Math.min.name, Cond.static Lib.Math.min.name, Cond.code Lib.Math.min.name Lib.Math.min.code 2 (some .int), Cond.methodLink RJ1 88 yJ1_canEncode_9a6ad, Cond.static yJ1_canEncode_9a6ad, Cond.code yJ1_canEncode_9a6ad cJ1_canEncode_9a6ad 1 (some .boolean)]
def wsX11_item_r3 : List Cond := [Cond.methodLink RJ1 95 yJ1_indexOfChar_4cfef, Cond.static yJ1_indexOfChar_4cfef, Cond.code yJ1_indexOfChar_4cfef cJ1_indexOfChar_4cfef 6 (some .int), Cond.methodLink RJ0 640 yJ2_indexOf_4cfef, Cond.static yJ2_indexOf_4cfef, Cond.initialized RJ2, Cond.code yJ2_indexOf_4cfef cJ2_indexOf_4cfef 4 (some .int), Cond.methodLink RJ2 224 Lib.Math.max.name, Cond.methodLink RJ2 183 Lib.Math.min.name, Cond.constant RJ2 227 (65536), Cond.methodLink RJ2 228 yJ2_indexOfChar_4cfef, Cond.static yJ2_indexOfChar_4cfef, Cond.code yJ2_indexOfChar_4cfef cJ2_indexOfChar_4cfef 4 (some .int), Cond.methodLink RJ2 96 yJ2_checkBoundsBeginEnd_d044e, Cond.static yJ2_checkBoundsBeginEnd_d044e, Cond.code yJ2_checkBoundsBeginEnd_d044e cJ2_checkBoundsBeginEnd_d044e 3 none, Cond.methodLink RJ2 48 yJ2_length_9d52b, Cond.static yJ2_length_9d52b, Cond.code yJ2_length_9d52b cJ2_length_9d52b 1 (some .int), Cond.methodLink RJ2 241 yJ0_checkBoundsBeginEnd_23922, Cond.static yJ0_checkBoundsBeginEnd_23922, Cond.code yJ0_checkBoundsBeginEnd_23922 cJ0_checkBoundsBeginEnd_23922 3 none, Cond.fieldLink RJ0 1053 "jdk/internal/util/Preconditions" "SIOOBE_FORMATTER" "Ljava/util/function/BiFunction;", Cond.methodLink RJ0 1062 yJ3_checkFromToIndex_8c36e]
def wsX11_item_r4 : List Cond := [Cond.static yJ3_checkFromToIndex_8c36e, Cond.initialized RJ3, Cond.code yJ3_checkFromToIndex_8c36e cJ3_checkFromToIndex_8c36e 4 (some .int), Cond.methodLink RJ2 244 yJ2_indexOfCharUnsafe_4cfef, Cond.static yJ2_indexOfCharUnsafe_4cfef, Cond.code yJ2_indexOfCharUnsafe_4cfef cJ2_indexOfCharUnsafe_4cfef 5 (some .int), Cond.methodLink RJ2 71 yJ2_getChar_3b067, Cond.static yJ2_getChar_3b067, Cond.code yJ2_getChar_3b067 cJ2_getChar_3b067 2 (some .char), Cond.fieldLink RJ2 44 "java/lang/StringUTF16" "$assertionsDisabled" "Z", Cond.fieldLink RJ2 59 "java/lang/StringUTF16" "HI_BYTE_SHIFT" "I", Cond.fieldLink RJ2 63 "java/lang/StringUTF16" "LO_BYTE_SHIFT" "I", Cond.methodLink RJ2 232 yJ2_indexOfSupplementary_4cfef, Cond.static yJ2_indexOfSupplementary_4cfef, Cond.code yJ2_indexOfSupplementary_4cfef cJ2_indexOfSupplementary_4cfef 7 (some .int), Cond.methodLink RJ2 164 yJ11_isValidCodePoint_9a6ad, Cond.static yJ11_isValidCodePoint_9a6ad, Cond.initialized RJ11, Cond.code yJ11_isValidCodePoint_9a6ad cJ11_isValidCodePoint_9a6ad 2 (some .boolean), Cond.methodLink RJ2 157 yJ11_highSurrogate_5068e, Cond.static yJ11_highSurrogate_5068e, Cond.code yJ11_highSurrogate_5068e cJ11_highSurrogate_5068e 1 (some .char), Cond.constant RJ11 110 (55232), Cond.methodLink RJ2 161 yJ11_lowSurrogate_5068e]
def wsX11_item_r5 : List Cond := [Cond.static yJ11_lowSurrogate_5068e, Cond.code yJ11_lowSurrogate_5068e cJ11_lowSurrogate_5068e 1 (some .char), Cond.constant RJ11 76 (56320)]
def wsX11_item : List Cond := .code yX11_item cX11_item 5 (some .boolean) :: ((wsX11_item_r1 ++ (wsX11_item_r2 ++ (wsX11_item_r3 ++ (wsX11_item_r4 ++ wsX11_item_r5)))) ++ wsX110)
def wsX11_reads_r1 : List Cond := [Cond.fieldLink RX11 194 "OneTimeModel" "at" "I", Cond.fieldLink RX11 62 "OneTimeModel" "lawOf" "[I", Cond.fieldLink RX11 124 "OneTimeModel" "laws" "I", Cond.methodLink RX11 217 yX11_item, Cond.instanceMethod yX11_item, Cond.selects RX11 yX11_item yX11_item, Cond.initialized RX11, Cond.code yX11_item cX11_item 5 (some .boolean), Cond.fieldLink RX11 53 "OneTimeModel" "tape" "[I", Cond.fieldLink RX11 65 "OneTimeModel" "lawMore" "[I", Cond.methodLink RX11 205 yX11_isSign, Cond.instanceMethod yX11_isSign, Cond.selects RX11 yX11_isSign yX11_isSign, Cond.code yX11_isSign cX11_isSign 3 (some .boolean), Cond.methodLink RX11 197 yJ0_indexOf_0f7a4, Cond.instanceMethod yJ0_indexOf_0f7a4, Cond.selects RJ0 yJ0_indexOf_0f7a4 yJ0_indexOf_0f7a4, Cond.initialized RJ0, Cond.code yJ0_indexOf_0f7a4 cJ0_indexOf_0f7a4 2 (some .int), Cond.methodLink RJ0 633 yJ0_indexOf_7cf53, Cond.instanceMethod yJ0_indexOf_7cf53, Cond.selects RJ0 yJ0_indexOf_7cf53 yJ0_indexOf_7cf53, Cond.code yJ0_indexOf_7cf53 cJ0_indexOf_7cf53 3 (some .int), Cond.fieldLink RJ0 9 "java/lang/String" "value" "[B"]
def wsX11_reads_r2 : List Cond := [Cond.methodLink RJ0 492 yJ0_isLatin1_aae02, Cond.instanceMethod yJ0_isLatin1_aae02, Cond.selects RJ0 yJ0_isLatin1_aae02 yJ0_isLatin1_aae02, Cond.code yJ0_isLatin1_aae02 cJ0_isLatin1_aae02 1 (some .boolean), Cond.fieldLink RJ0 38 "java/lang/String" "COMPACT_STRINGS" "Z", Cond.fieldLink RJ0 15 "java/lang/String" "coder" "B", Cond.methodLink RJ0 505 yJ0_length_8abf5, Cond.instanceMethod yJ0_length_8abf5, Cond.selects RJ0 yJ0_length_8abf5 yJ0_length_8abf5, Cond.code yJ0_length_8abf5 cJ0_length_8abf5 1 (some .int), Cond.methodLink RJ0 335 yJ0_coder_7d493, Cond.instanceMethod yJ0_coder_7d493, Cond.selects RJ0 yJ0_coder_7d493 yJ0_coder_7d493, Cond.code yJ0_coder_7d493 cJ0_coder_7d493 1 (some .byte), Cond.methodLink RJ0 637 yJ1_indexOf_4cfef, Cond.static yJ1_indexOf_4cfef, Cond.initialized RJ1, Cond.code yJ1_indexOf_4cfef cJ1_indexOf_4cfef 4 (some .int), Cond.methodLink RJ1 92 Lib.Math.max.name, Cond.static Lib.Math.max.name, Cond.initialized "java/lang/Math", Cond.code Lib.Math.max.name Lib.Math.max.code 2 (some .int), Cond.methodLink RJ1 38 Lib.Math.min.name, Cond.static Lib.Math.min.name]
def wsX11_reads_r3 : List Cond := [Cond.code Lib.Math.min.name Lib.Math.min.code 2 (some .int), Cond.methodLink RJ1 88 yJ1_canEncode_9a6ad, Cond.static yJ1_canEncode_9a6ad, Cond.code yJ1_canEncode_9a6ad cJ1_canEncode_9a6ad 1 (some .boolean), Cond.methodLink RJ1 95 yJ1_indexOfChar_4cfef, Cond.static yJ1_indexOfChar_4cfef, Cond.code yJ1_indexOfChar_4cfef cJ1_indexOfChar_4cfef 6 (some .int), Cond.methodLink RJ0 640 yJ2_indexOf_4cfef, Cond.static yJ2_indexOf_4cfef, Cond.initialized RJ2, Cond.code yJ2_indexOf_4cfef cJ2_indexOf_4cfef 4 (some .int), Cond.methodLink RJ2 224 Lib.Math.max.name, Cond.methodLink RJ2 183 Lib.Math.min.name, Cond.constant RJ2 227 (65536), Cond.methodLink RJ2 228 yJ2_indexOfChar_4cfef, Cond.static yJ2_indexOfChar_4cfef, Cond.code yJ2_indexOfChar_4cfef cJ2_indexOfChar_4cfef 4 (some .int), Cond.methodLink RJ2 96 yJ2_checkBoundsBeginEnd_d044e, Cond.static yJ2_checkBoundsBeginEnd_d044e, Cond.code yJ2_checkBoundsBeginEnd_d044e cJ2_checkBoundsBeginEnd_d044e 3 none, Cond.methodLink RJ2 48 yJ2_length_9d52b, Cond.static yJ2_length_9d52b, Cond.code yJ2_length_9d52b cJ2_length_9d52b 1 (some .int), Cond.methodLink RJ2 241 yJ0_checkBoundsBeginEnd_23922]
def wsX11_reads_r4 : List Cond := [Cond.static yJ0_checkBoundsBeginEnd_23922, Cond.code yJ0_checkBoundsBeginEnd_23922 cJ0_checkBoundsBeginEnd_23922 3 none, Cond.fieldLink RJ0 1053 "jdk/internal/util/Preconditions" "SIOOBE_FORMATTER" "Ljava/util/function/BiFunction;", Cond.methodLink RJ0 1062 yJ3_checkFromToIndex_8c36e, Cond.static yJ3_checkFromToIndex_8c36e, Cond.initialized RJ3, Cond.code yJ3_checkFromToIndex_8c36e cJ3_checkFromToIndex_8c36e 4 (some .int), Cond.methodLink RJ2 244 yJ2_indexOfCharUnsafe_4cfef, Cond.static yJ2_indexOfCharUnsafe_4cfef, Cond.code yJ2_indexOfCharUnsafe_4cfef cJ2_indexOfCharUnsafe_4cfef 5 (some .int), Cond.methodLink RJ2 71 yJ2_getChar_3b067, Cond.static yJ2_getChar_3b067, Cond.code yJ2_getChar_3b067 cJ2_getChar_3b067 2 (some .char), Cond.fieldLink RJ2 44 "java/lang/StringUTF16" "$assertionsDisabled" "Z", Cond.fieldLink RJ2 59 "java/lang/StringUTF16" "HI_BYTE_SHIFT" "I", Cond.fieldLink RJ2 63 "java/lang/StringUTF16" "LO_BYTE_SHIFT" "I", Cond.methodLink RJ2 232 yJ2_indexOfSupplementary_4cfef, Cond.static yJ2_indexOfSupplementary_4cfef, Cond.code yJ2_indexOfSupplementary_4cfef cJ2_indexOfSupplementary_4cfef 7 (some .int), Cond.methodLink RJ2 164 yJ11_isValidCodePoint_9a6ad, Cond.static yJ11_isValidCodePoint_9a6ad, Cond.initialized RJ11, Cond.code yJ11_isValidCodePoint_9a6ad cJ11_isValidCodePoint_9a6ad 2 (some .boolean), Cond.methodLink RJ2 157 yJ11_highSurrogate_5068e]
def wsX11_reads_r5 : List Cond := [Cond.static yJ11_highSurrogate_5068e, Cond.code yJ11_highSurrogate_5068e cJ11_highSurrogate_5068e 1 (some .char), Cond.constant RJ11 110 (55232), Cond.methodLink RJ2 161 yJ11_lowSurrogate_5068e, Cond.static yJ11_lowSurrogate_5068e, Cond.code yJ11_lowSurrogate_5068e cJ11_lowSurrogate_5068e 1 (some .char), Cond.constant RJ11 76 (56320)]
def wsX11_reads : List Cond := .code yX11_reads cX11_reads 3 (some .boolean) :: ((wsX11_reads_r1 ++ (wsX11_reads_r2 ++ (wsX11_reads_r3 ++ (wsX11_reads_r4 ++ wsX11_reads_r5)))) ++ wsX110)
def wsX11_law_r1 : List Cond := [Cond.fieldLink RX11 83 "OneTimeModel" "thrown" "I", Cond.fieldLink RX11 133 "OneTimeModel" "taped" "I", Cond.fieldLink RX11 124 "OneTimeModel" "laws" "I", Cond.methodLink RX11 176 Lib.Math.min.name, Cond.static Lib.Math.min.name, Cond.initialized "java/lang/Math", Cond.code Lib.Math.min.name Lib.Math.min.code 2 (some .int), Cond.fieldLink RX11 194 "OneTimeModel" "at" "I", Cond.fieldLink RX11 56 "OneTimeModel" "lawTown" "[I", Cond.fieldLink RX11 59 "OneTimeModel" "lawDay" "[I", Cond.methodLink RX11 102 yX11_isTown, Cond.instanceMethod yX11_isTown, Cond.selects RX11 yX11_isTown yX11_isTown, Cond.initialized RX11, Cond.code yX11_isTown cX11_isTown 2 (some .boolean), Cond.fieldLink RX11 87 "OneTimeModel" "towns" "I", Cond.methodLink RX11 90 yX11_in, Cond.static yX11_in, Cond.code yX11_in cX11_in 6 (some .boolean), Cond.methodLink RX11 106 yX11_isDay, Cond.static yX11_isDay, Cond.code yX11_isDay cX11_isDay 1 (some .boolean), Cond.constantLong RX11 94 (399), Cond.methodLink RX11 222 yX11_reads]
def wsX11_law_r2 : List Cond := [Cond.instanceMethod yX11_reads, Cond.selects RX11 yX11_reads yX11_reads, Cond.code yX11_reads cX11_reads 3 (some .boolean), Cond.fieldLink RX11 62 "OneTimeModel" "lawOf" "[I", Cond.methodLink RX11 217 yX11_item, Cond.instanceMethod yX11_item, Cond.selects RX11 yX11_item yX11_item, Cond.code yX11_item cX11_item 5 (some .boolean), Cond.fieldLink RX11 53 "OneTimeModel" "tape" "[I", Cond.fieldLink RX11 65 "OneTimeModel" "lawMore" "[I", Cond.methodLink RX11 205 yX11_isSign, Cond.instanceMethod yX11_isSign, Cond.selects RX11 yX11_isSign yX11_isSign, Cond.code yX11_isSign cX11_isSign 3 (some .boolean), Cond.methodLink RX11 197 yJ0_indexOf_0f7a4, Cond.instanceMethod yJ0_indexOf_0f7a4, Cond.selects RJ0 yJ0_indexOf_0f7a4 yJ0_indexOf_0f7a4, Cond.initialized RJ0, Cond.code yJ0_indexOf_0f7a4 cJ0_indexOf_0f7a4 2 (some .int), Cond.methodLink RJ0 633 yJ0_indexOf_7cf53, Cond.instanceMethod yJ0_indexOf_7cf53, Cond.selects RJ0 yJ0_indexOf_7cf53 yJ0_indexOf_7cf53, Cond.code yJ0_indexOf_7cf53 cJ0_indexOf_7cf53 3 (some .int), Cond.fieldLink RJ0 9 "java/lang/String" "value" "[B"]
def wsX11_law_r3 : List Cond := [Cond.methodLink RJ0 492 yJ0_isLatin1_aae02, Cond.instanceMethod yJ0_isLatin1_aae02, Cond.selects RJ0 yJ0_isLatin1_aae02 yJ0_isLatin1_aae02, Cond.code yJ0_isLatin1_aae02 cJ0_isLatin1_aae02 1 (some .boolean), Cond.fieldLink RJ0 38 "java/lang/String" "COMPACT_STRINGS" "Z", Cond.fieldLink RJ0 15 "java/lang/String" "coder" "B", Cond.methodLink RJ0 505 yJ0_length_8abf5, Cond.instanceMethod yJ0_length_8abf5, Cond.selects RJ0 yJ0_length_8abf5 yJ0_length_8abf5, Cond.code yJ0_length_8abf5 cJ0_length_8abf5 1 (some .int), Cond.methodLink RJ0 335 yJ0_coder_7d493, Cond.instanceMethod yJ0_coder_7d493, Cond.selects RJ0 yJ0_coder_7d493 yJ0_coder_7d493, Cond.code yJ0_coder_7d493 cJ0_coder_7d493 1 (some .byte), Cond.methodLink RJ0 637 yJ1_indexOf_4cfef, Cond.static yJ1_indexOf_4cfef, Cond.initialized RJ1, Cond.code yJ1_indexOf_4cfef cJ1_indexOf_4cfef 4 (some .int), Cond.methodLink RJ1 92 Lib.Math.max.name, Cond.static Lib.Math.max.name, Cond.code Lib.Math.max.name Lib.Math.max.code 2 (some .int), Cond.methodLink RJ1 38 Lib.Math.min.name, Cond.methodLink RJ1 88 yJ1_canEncode_9a6ad, Cond.static yJ1_canEncode_9a6ad]
def wsX11_law_r4 : List Cond := [Cond.code yJ1_canEncode_9a6ad cJ1_canEncode_9a6ad 1 (some .boolean), Cond.methodLink RJ1 95 yJ1_indexOfChar_4cfef, Cond.static yJ1_indexOfChar_4cfef, Cond.code yJ1_indexOfChar_4cfef cJ1_indexOfChar_4cfef 6 (some .int), Cond.methodLink RJ0 640 yJ2_indexOf_4cfef, Cond.static yJ2_indexOf_4cfef, Cond.initialized RJ2, Cond.code yJ2_indexOf_4cfef cJ2_indexOf_4cfef 4 (some .int), Cond.methodLink RJ2 224 Lib.Math.max.name, Cond.methodLink RJ2 183 Lib.Math.min.name, Cond.constant RJ2 227 (65536), Cond.methodLink RJ2 228 yJ2_indexOfChar_4cfef, Cond.static yJ2_indexOfChar_4cfef, Cond.code yJ2_indexOfChar_4cfef cJ2_indexOfChar_4cfef 4 (some .int), Cond.methodLink RJ2 96 yJ2_checkBoundsBeginEnd_d044e, Cond.static yJ2_checkBoundsBeginEnd_d044e, Cond.code yJ2_checkBoundsBeginEnd_d044e cJ2_checkBoundsBeginEnd_d044e 3 none, Cond.methodLink RJ2 48 yJ2_length_9d52b, Cond.static yJ2_length_9d52b, Cond.code yJ2_length_9d52b cJ2_length_9d52b 1 (some .int), Cond.methodLink RJ2 241 yJ0_checkBoundsBeginEnd_23922, Cond.static yJ0_checkBoundsBeginEnd_23922, Cond.code yJ0_checkBoundsBeginEnd_23922 cJ0_checkBoundsBeginEnd_23922 3 none, Cond.fieldLink RJ0 1053 "jdk/internal/util/Preconditions" "SIOOBE_FORMATTER" "Ljava/util/function/BiFunction;"]
def wsX11_law_r5 : List Cond := [Cond.methodLink RJ0 1062 yJ3_checkFromToIndex_8c36e, Cond.static yJ3_checkFromToIndex_8c36e, Cond.initialized RJ3, Cond.code yJ3_checkFromToIndex_8c36e cJ3_checkFromToIndex_8c36e 4 (some .int), Cond.methodLink RJ2 244 yJ2_indexOfCharUnsafe_4cfef, Cond.static yJ2_indexOfCharUnsafe_4cfef, Cond.code yJ2_indexOfCharUnsafe_4cfef cJ2_indexOfCharUnsafe_4cfef 5 (some .int), Cond.methodLink RJ2 71 yJ2_getChar_3b067, Cond.static yJ2_getChar_3b067, Cond.code yJ2_getChar_3b067 cJ2_getChar_3b067 2 (some .char), Cond.fieldLink RJ2 44 "java/lang/StringUTF16" "$assertionsDisabled" "Z", Cond.fieldLink RJ2 59 "java/lang/StringUTF16" "HI_BYTE_SHIFT" "I", Cond.fieldLink RJ2 63 "java/lang/StringUTF16" "LO_BYTE_SHIFT" "I", Cond.methodLink RJ2 232 yJ2_indexOfSupplementary_4cfef, Cond.static yJ2_indexOfSupplementary_4cfef, Cond.code yJ2_indexOfSupplementary_4cfef cJ2_indexOfSupplementary_4cfef 7 (some .int), Cond.methodLink RJ2 164 yJ11_isValidCodePoint_9a6ad, Cond.static yJ11_isValidCodePoint_9a6ad, Cond.initialized RJ11, Cond.code yJ11_isValidCodePoint_9a6ad cJ11_isValidCodePoint_9a6ad 2 (some .boolean), Cond.methodLink RJ2 157 yJ11_highSurrogate_5068e, Cond.static yJ11_highSurrogate_5068e, Cond.code yJ11_highSurrogate_5068e cJ11_highSurrogate_5068e 1 (some .char), Cond.constant RJ11 110 (55232)]
def wsX11_law_r6 : List Cond := [Cond.methodLink RJ2 161 yJ11_lowSurrogate_5068e, Cond.static yJ11_lowSurrogate_5068e, Cond.code yJ11_lowSurrogate_5068e cJ11_lowSurrogate_5068e 1 (some .char), Cond.constant RJ11 76 (56320)]
def wsX11_law : List Cond := .code yX11_law cX11_law 5 (some .int) :: ((wsX11_law_r1 ++ (wsX11_law_r2 ++ (wsX11_law_r3 ++ (wsX11_law_r4 ++ (wsX11_law_r5 ++ wsX11_law_r6))))) ++ wsX110)
def wsX11_more : List Cond := .code yX11_more cX11_more 7 (some .int) :: ([.fieldLink RX11 124 "OneTimeModel" "laws" "I", .fieldLink RX11 56 "OneTimeModel" "lawTown" "[I", .fieldLink RX11 59 "OneTimeModel" "lawDay" "[I", .fieldLink RX11 62 "OneTimeModel" "lawOf" "[I", .fieldLink RX11 9 "OneTimeModel" "sun" "[I", .fieldLink RX11 65 "OneTimeModel" "lawMore" "[I", .methodLink RX11 139 yX11_ahead, .instanceMethod yX11_ahead, .selects RX11 yX11_ahead yX11_ahead, .initialized RX11, .code yX11_ahead cX11_ahead 5 (some .int), .fieldLink RX11 111 "OneTimeModel" "clocks" "I", .fieldLink RX11 13 "OneTimeModel" "clockTown" "[I", .fieldLink RX11 16 "OneTimeModel" "clockDay" "[I", .fieldLink RX11 19 "OneTimeModel" "clockKind" "[I", .fieldLink RX11 22 "OneTimeModel" "clockArg" "[I", .methodLink RX11 225 yJ9_floorDiv_7cf53, .static yJ9_floorDiv_7cf53, .initialized RJ9, .code yJ9_floorDiv_7cf53 cJ9_floorDiv_7cf53 3 (some .int)] ++ wsX110)
def wsX11_isMatter : List Cond := .code yX11_isMatter cX11_isMatter 3 (some .boolean) :: ([.constantLong RX11 228 (5), .methodLink RX11 102 yX11_isTown, .instanceMethod yX11_isTown, .selects RX11 yX11_isTown yX11_isTown, .initialized RX11, .code yX11_isTown cX11_isTown 2 (some .boolean), .fieldLink RX11 87 "OneTimeModel" "towns" "I", .methodLink RX11 90 yX11_in, .static yX11_in, .code yX11_in cX11_in 6 (some .boolean)] ++ wsX110)
def wsX11_judged_r1 : List Cond := [Cond.fieldLink RX11 83 "OneTimeModel" "thrown" "I", Cond.methodLink RX11 230 yX11_isMatter, Cond.instanceMethod yX11_isMatter, Cond.selects RX11 yX11_isMatter yX11_isMatter, Cond.initialized RX11, Cond.code yX11_isMatter cX11_isMatter 3 (some .boolean), Cond.constantLong RX11 228 (5), Cond.methodLink RX11 102 yX11_isTown, Cond.instanceMethod yX11_isTown, Cond.selects RX11 yX11_isTown yX11_isTown, Cond.code yX11_isTown cX11_isTown 2 (some .boolean), Cond.fieldLink RX11 87 "OneTimeModel" "towns" "I", Cond.methodLink RX11 90 yX11_in, Cond.static yX11_in, Cond.code yX11_in cX11_in 6 (some .boolean), Cond.methodLink RX11 136 yX11_isMinute, Cond.static yX11_isMinute, Cond.code yX11_isMinute cX11_isMinute 1 (some .boolean), Cond.constantLong RX11 96 (575999), Cond.methodLink RX11 234 yX11_more, Cond.instanceMethod yX11_more, Cond.selects RX11 yX11_more yX11_more, Cond.code yX11_more cX11_more 7 (some .int), Cond.fieldLink RX11 124 "OneTimeModel" "laws" "I"]
def wsX11_judged_r2 : List Cond := [Cond.fieldLink RX11 56 "OneTimeModel" "lawTown" "[I", Cond.fieldLink RX11 59 "OneTimeModel" "lawDay" "[I", Cond.fieldLink RX11 62 "OneTimeModel" "lawOf" "[I", Cond.fieldLink RX11 9 "OneTimeModel" "sun" "[I", Cond.fieldLink RX11 65 "OneTimeModel" "lawMore" "[I", Cond.methodLink RX11 139 yX11_ahead, Cond.instanceMethod yX11_ahead, Cond.selects RX11 yX11_ahead yX11_ahead, Cond.code yX11_ahead cX11_ahead 5 (some .int), Cond.fieldLink RX11 111 "OneTimeModel" "clocks" "I", Cond.fieldLink RX11 13 "OneTimeModel" "clockTown" "[I", Cond.fieldLink RX11 16 "OneTimeModel" "clockDay" "[I", Cond.fieldLink RX11 19 "OneTimeModel" "clockKind" "[I", Cond.fieldLink RX11 22 "OneTimeModel" "clockArg" "[I", Cond.methodLink RX11 225 yJ9_floorDiv_7cf53, Cond.static yJ9_floorDiv_7cf53, Cond.initialized RJ9, Cond.code yJ9_floorDiv_7cf53 cJ9_floorDiv_7cf53 3 (some .int), Cond.methodLink RX11 143 yX11_refuse, Cond.instanceMethod yX11_refuse, Cond.selects RX11 yX11_refuse yX11_refuse, Cond.code yX11_refuse cX11_refuse 1 (some .int)]
def wsX11_judged : List Cond := .code yX11_judged cX11_judged 4 (some .int) :: ((wsX11_judged_r1 ++ wsX11_judged_r2) ++ wsX110)
def wsX11_late_r1 : List Cond := [Cond.fieldLink RX11 83 "OneTimeModel" "thrown" "I", Cond.constantLong RX11 155 (1439), Cond.methodLink RX11 230 yX11_isMatter, Cond.instanceMethod yX11_isMatter, Cond.selects RX11 yX11_isMatter yX11_isMatter, Cond.initialized RX11, Cond.code yX11_isMatter cX11_isMatter 3 (some .boolean), Cond.constantLong RX11 228 (5), Cond.methodLink RX11 102 yX11_isTown, Cond.instanceMethod yX11_isTown, Cond.selects RX11 yX11_isTown yX11_isTown, Cond.code yX11_isTown cX11_isTown 2 (some .boolean), Cond.fieldLink RX11 87 "OneTimeModel" "towns" "I", Cond.methodLink RX11 90 yX11_in, Cond.static yX11_in, Cond.code yX11_in cX11_in 6 (some .boolean), Cond.methodLink RX11 106 yX11_isDay, Cond.static yX11_isDay, Cond.code yX11_isDay cX11_isDay 1 (some .boolean), Cond.constantLong RX11 94 (399), Cond.methodLink RX11 234 yX11_more, Cond.instanceMethod yX11_more, Cond.selects RX11 yX11_more yX11_more, Cond.code yX11_more cX11_more 7 (some .int)]
def wsX11_late_r2 : List Cond := [Cond.fieldLink RX11 124 "OneTimeModel" "laws" "I", Cond.fieldLink RX11 56 "OneTimeModel" "lawTown" "[I", Cond.fieldLink RX11 59 "OneTimeModel" "lawDay" "[I", Cond.fieldLink RX11 62 "OneTimeModel" "lawOf" "[I", Cond.fieldLink RX11 9 "OneTimeModel" "sun" "[I", Cond.fieldLink RX11 65 "OneTimeModel" "lawMore" "[I", Cond.methodLink RX11 139 yX11_ahead, Cond.instanceMethod yX11_ahead, Cond.selects RX11 yX11_ahead yX11_ahead, Cond.code yX11_ahead cX11_ahead 5 (some .int), Cond.fieldLink RX11 111 "OneTimeModel" "clocks" "I", Cond.fieldLink RX11 13 "OneTimeModel" "clockTown" "[I", Cond.fieldLink RX11 16 "OneTimeModel" "clockDay" "[I", Cond.fieldLink RX11 19 "OneTimeModel" "clockKind" "[I", Cond.fieldLink RX11 22 "OneTimeModel" "clockArg" "[I", Cond.methodLink RX11 225 yJ9_floorDiv_7cf53, Cond.static yJ9_floorDiv_7cf53, Cond.initialized RJ9, Cond.code yJ9_floorDiv_7cf53 cJ9_floorDiv_7cf53 3 (some .int), Cond.methodLink RX11 237 yJ9_floorMod_7cf53, Cond.static yJ9_floorMod_7cf53, Cond.code yJ9_floorMod_7cf53 cJ9_floorMod_7cf53 3 (some .int)]
def wsX11_late : List Cond := .code yX11_late cX11_late 9 (some .int) :: ((wsX11_late_r1 ++ wsX11_late_r2) ++ wsX110)
def wsX11_tower : List Cond := .code yX11_tower cX11_tower 4 (some .int) :: ([.fieldLink RX11 83 "OneTimeModel" "thrown" "I", .constantLong RX11 240 (-600), .constantLong RX11 153 (600), .fieldLink RX11 127 "OneTimeModel" "towers" "I", .fieldLink RX11 68 "OneTimeModel" "towerTown" "[I", .fieldLink RX11 71 "OneTimeModel" "setAt" "[I", .fieldLink RX11 74 "OneTimeModel" "drift" "[I", .methodLink RX11 102 yX11_isTown, .instanceMethod yX11_isTown, .selects RX11 yX11_isTown yX11_isTown, .initialized RX11, .code yX11_isTown cX11_isTown 2 (some .boolean), .fieldLink RX11 87 "OneTimeModel" "towns" "I", .methodLink RX11 90 yX11_in, .static yX11_in, .code yX11_in cX11_in 6 (some .boolean), .methodLink RX11 136 yX11_isMinute, .static yX11_isMinute, .code yX11_isMinute cX11_isMinute 1 (some .boolean), .constantLong RX11 96 (575999)] ++ wsX110)
def wsX11_errorOf : List Cond := .code yX11_errorOf cX11_errorOf 3 (some .int) :: ([.fieldLink RX11 74 "OneTimeModel" "drift" "[I", .fieldLink RX11 71 "OneTimeModel" "setAt" "[I", .constantLong RX11 147 (1440)] ++ wsX110)
def wsX11_isAsked : List Cond := .code yX11_isAsked cX11_isAsked 3 (some .boolean) :: ([.fieldLink RX11 127 "OneTimeModel" "towers" "I", .fieldLink RX11 71 "OneTimeModel" "setAt" "[I", .methodLink RX11 90 yX11_in, .static yX11_in, .initialized RX11, .code yX11_in cX11_in 6 (some .boolean), .methodLink RX11 136 yX11_isMinute, .static yX11_isMinute, .code yX11_isMinute cX11_isMinute 1 (some .boolean), .constantLong RX11 96 (575999)] ++ wsX110)
def wsX11_error_r1 : List Cond := [Cond.fieldLink RX11 83 "OneTimeModel" "thrown" "I", Cond.methodLink RX11 242 yX11_isAsked, Cond.instanceMethod yX11_isAsked, Cond.selects RX11 yX11_isAsked yX11_isAsked, Cond.initialized RX11, Cond.code yX11_isAsked cX11_isAsked 3 (some .boolean), Cond.fieldLink RX11 127 "OneTimeModel" "towers" "I", Cond.fieldLink RX11 71 "OneTimeModel" "setAt" "[I", Cond.methodLink RX11 90 yX11_in, Cond.static yX11_in, Cond.code yX11_in cX11_in 6 (some .boolean), Cond.methodLink RX11 136 yX11_isMinute, Cond.static yX11_isMinute, Cond.code yX11_isMinute cX11_isMinute 1 (some .boolean), Cond.constantLong RX11 96 (575999), Cond.methodLink RX11 245 yX11_errorOf, Cond.instanceMethod yX11_errorOf, Cond.selects RX11 yX11_errorOf yX11_errorOf, Cond.code yX11_errorOf cX11_errorOf 3 (some .int), Cond.fieldLink RX11 74 "OneTimeModel" "drift" "[I", Cond.constantLong RX11 147 (1440), Cond.methodLink RX11 143 yX11_refuse, Cond.instanceMethod yX11_refuse, Cond.selects RX11 yX11_refuse yX11_refuse]
def wsX11_error_r2 : List Cond := [Cond.code yX11_refuse cX11_refuse 1 (some .int)]
def wsX11_error : List Cond := .code yX11_error cX11_error 3 (some .int) :: ((wsX11_error_r1 ++ wsX11_error_r2) ++ wsX110)
def wsX11_set_r1 : List Cond := [Cond.fieldLink RX11 83 "OneTimeModel" "thrown" "I", Cond.fieldLink RX11 71 "OneTimeModel" "setAt" "[I", Cond.methodLink RX11 242 yX11_isAsked, Cond.instanceMethod yX11_isAsked, Cond.selects RX11 yX11_isAsked yX11_isAsked, Cond.initialized RX11, Cond.code yX11_isAsked cX11_isAsked 3 (some .boolean), Cond.fieldLink RX11 127 "OneTimeModel" "towers" "I", Cond.methodLink RX11 90 yX11_in, Cond.static yX11_in, Cond.code yX11_in cX11_in 6 (some .boolean), Cond.methodLink RX11 136 yX11_isMinute, Cond.static yX11_isMinute, Cond.code yX11_isMinute cX11_isMinute 1 (some .boolean), Cond.constantLong RX11 96 (575999), Cond.methodLink RX11 143 yX11_refuse, Cond.instanceMethod yX11_refuse, Cond.selects RX11 yX11_refuse yX11_refuse, Cond.code yX11_refuse cX11_refuse 1 (some .int), Cond.methodLink RX11 245 yX11_errorOf, Cond.instanceMethod yX11_errorOf, Cond.selects RX11 yX11_errorOf yX11_errorOf, Cond.code yX11_errorOf cX11_errorOf 3 (some .int), Cond.fieldLink RX11 74 "OneTimeModel" "drift" "[I"]
def wsX11_set_r2 : List Cond := [Cond.constantLong RX11 147 (1440)]
def wsX11_set : List Cond := .code yX11_set cX11_set 4 (some .int) :: ((wsX11_set_r1 ++ wsX11_set_r2) ++ wsX110)
def wsX11_goes_r1 : List Cond := [Cond.fieldLink RX11 248 "OneTimeModel" "bestError" "I", Cond.fieldLink RX11 127 "OneTimeModel" "towers" "I", Cond.fieldLink RX11 251 "OneTimeModel" "bestEnd" "I", Cond.fieldLink RX11 80 "OneTimeModel" "best" "[I", Cond.fieldLink RX11 77 "OneTimeModel" "order" "[I", Cond.fieldLink RX11 9 "OneTimeModel" "sun" "[I", Cond.fieldLink RX11 68 "OneTimeModel" "towerTown" "[I", Cond.methodLink RX11 254 Lib.Math.abs.name, Cond.static Lib.Math.abs.name, Cond.initialized "java/lang/Math", Cond.code Lib.Math.abs.name Lib.Math.abs.code 1 (some .int), Cond.methodLink RX11 171 Lib.Math.max.name, Cond.static Lib.Math.max.name, Cond.code Lib.Math.max.name Lib.Math.max.code 2 (some .int), Cond.methodLink RX11 245 yX11_errorOf, Cond.instanceMethod yX11_errorOf, Cond.selects RX11 yX11_errorOf yX11_errorOf, Cond.initialized RX11, Cond.code yX11_errorOf cX11_errorOf 3 (some .int), Cond.fieldLink RX11 74 "OneTimeModel" "drift" "[I", Cond.fieldLink RX11 71 "OneTimeModel" "setAt" "[I", Cond.constantLong RX11 147 (1440), Cond.methodLink RX11 257 yX11_goes, Cond.instanceMethod yX11_goes]
def wsX11_goes_r2 : List Cond := [Cond.selects RX11 yX11_goes yX11_goes]
def wsX11_goes : List Cond := .code yX11_goes cX11_goes 8 none :: ((wsX11_goes_r1 ++ wsX11_goes_r2) ++ wsX110)
def wsX11_round_r1 : List Cond := [Cond.fieldLink RX11 83 "OneTimeModel" "thrown" "I", Cond.fieldLink RX11 127 "OneTimeModel" "towers" "I", Cond.fieldLink RX11 71 "OneTimeModel" "setAt" "[I", Cond.constant RX11 193 (1073741824), Cond.fieldLink RX11 248 "OneTimeModel" "bestError" "I", Cond.fieldLink RX11 251 "OneTimeModel" "bestEnd" "I", Cond.constant RX11 261 (576000), Cond.fieldLink RX11 130 "OneTimeModel" "rows" "I", Cond.fieldLink RX11 25 "OneTimeModel" "row" "[I", Cond.fieldLink RX11 80 "OneTimeModel" "best" "[I", Cond.methodLink RX11 102 yX11_isTown, Cond.instanceMethod yX11_isTown, Cond.selects RX11 yX11_isTown yX11_isTown, Cond.initialized RX11, Cond.code yX11_isTown cX11_isTown 2 (some .boolean), Cond.fieldLink RX11 87 "OneTimeModel" "towns" "I", Cond.methodLink RX11 90 yX11_in, Cond.static yX11_in, Cond.code yX11_in cX11_in 6 (some .boolean), Cond.methodLink RX11 136 yX11_isMinute, Cond.static yX11_isMinute, Cond.code yX11_isMinute cX11_isMinute 1 (some .boolean), Cond.constantLong RX11 96 (575999), Cond.methodLink RX11 257 yX11_goes]
def wsX11_round_r2 : List Cond := [Cond.instanceMethod yX11_goes, Cond.selects RX11 yX11_goes yX11_goes, Cond.code yX11_goes cX11_goes 8 none, Cond.fieldLink RX11 77 "OneTimeModel" "order" "[I", Cond.fieldLink RX11 9 "OneTimeModel" "sun" "[I", Cond.fieldLink RX11 68 "OneTimeModel" "towerTown" "[I", Cond.methodLink RX11 254 Lib.Math.abs.name, Cond.static Lib.Math.abs.name, Cond.initialized "java/lang/Math", Cond.code Lib.Math.abs.name Lib.Math.abs.code 1 (some .int), Cond.methodLink RX11 171 Lib.Math.max.name, Cond.static Lib.Math.max.name, Cond.code Lib.Math.max.name Lib.Math.max.code 2 (some .int), Cond.methodLink RX11 245 yX11_errorOf, Cond.instanceMethod yX11_errorOf, Cond.selects RX11 yX11_errorOf yX11_errorOf, Cond.code yX11_errorOf cX11_errorOf 3 (some .int), Cond.fieldLink RX11 74 "OneTimeModel" "drift" "[I", Cond.constantLong RX11 147 (1440)]
def wsX11_round : List Cond := .code yX11_round cX11_round 5 (some .int) :: ((wsX11_round_r1 ++ wsX11_round_r2) ++ wsX110)
def wsX11_row : List Cond := .code yX11_row cX11_row 2 (some .int) :: ([.fieldLink RX11 83 "OneTimeModel" "thrown" "I", .fieldLink RX11 130 "OneTimeModel" "rows" "I", .fieldLink RX11 25 "OneTimeModel" "row" "[I", .methodLink RX11 90 yX11_in, .static yX11_in, .initialized RX11, .code yX11_in cX11_in 6 (some .boolean), .methodLink RX11 143 yX11_refuse, .instanceMethod yX11_refuse, .selects RX11 yX11_refuse yX11_refuse, .code yX11_refuse cX11_refuse 1 (some .int)] ++ wsX110)
def wsJ9_abs_0f7a4 : List Cond := .code yJ9_abs_0f7a4 cJ9_abs_0f7a4 1 (some .int) :: ([])
def wsJ9_max_7cf53 : List Cond := .code yJ9_max_7cf53 cJ9_max_7cf53 2 (some .int) :: ([])
def wsJ9_min_7cf53 : List Cond := .code yJ9_min_7cf53 cJ9_min_7cf53 2 (some .int) :: ([])
theorem dX0_init_0 : decode cX0_init 0 = .ok (.aload_n 0, 1) := by decide +kernel
theorem dX0_init_1 : decode cX0_init 1 = .ok (.invokespecial 5, 3) := by decide +kernel
theorem dX0_init_4 : decode cX0_init 4 = .ok (.aload_n 0, 1) := by decide +kernel
theorem dX0_init_5 : decode cX0_init 5 = .ok (.bipush 6, 2) := by decide +kernel
theorem dX0_init_7 : decode cX0_init 7 = .ok (.bipush 6, 2) := by decide +kernel
theorem dX0_init_9 : decode cX0_init 9 = .ok (.multianewarray 11 2, 4) := by decide +kernel
theorem dX0_init_13 : decode cX0_init 13 = .ok (.putfield 13, 3) := by decide +kernel
theorem dX0_init_16 : decode cX0_init 16 = .ok (.aload_n 0, 1) := by decide +kernel
theorem dX0_init_17 : decode cX0_init 17 = .ok (.bipush 7, 2) := by decide +kernel
theorem dX0_init_19 : decode cX0_init 19 = .ok (.bipush 6, 2) := by decide +kernel
theorem dX0_init_21 : decode cX0_init 21 = .ok (.multianewarray 11 2, 4) := by decide +kernel
theorem dX0_init_25 : decode cX0_init 25 = .ok (.putfield 16, 3) := by decide +kernel
theorem dX0_init_28 : decode cX0_init 28 = .ok (.aload_n 0, 1) := by decide +kernel
theorem dX0_init_29 : decode cX0_init 29 = .ok (.bipush 6, 2) := by decide +kernel
theorem dX0_init_31 : decode cX0_init 31 = .ok (.newarray .int, 2) := by decide +kernel
theorem dX0_init_33 : decode cX0_init 33 = .ok (.putfield 19, 3) := by decide +kernel
theorem dX0_init_36 : decode cX0_init 36 = .ok (.aload_n 0, 1) := by decide +kernel
theorem dX0_init_37 : decode cX0_init 37 = .ok (.bipush 6, 2) := by decide +kernel
theorem dX0_init_39 : decode cX0_init 39 = .ok (.newarray .int, 2) := by decide +kernel
theorem dX0_init_41 : decode cX0_init 41 = .ok (.putfield 23, 3) := by decide +kernel
theorem dX0_init_44 : decode cX0_init 44 = .ok (.aload_n 0, 1) := by decide +kernel
theorem dX0_init_45 : decode cX0_init 45 = .ok (.iconst 0, 1) := by decide +kernel
theorem dX0_init_46 : decode cX0_init 46 = .ok (.putfield 26, 3) := by decide +kernel
theorem dX0_init_49 : decode cX0_init 49 = .ok (.aload_n 0, 1) := by decide +kernel
theorem dX0_init_50 : decode cX0_init 50 = .ok (.sipush 448, 3) := by decide +kernel
theorem dX0_init_53 : decode cX0_init 53 = .ok (.putfield 30, 3) := by decide +kernel
theorem dX0_init_56 : decode cX0_init 56 = .ok (.return_, 1) := by decide +kernel
set_option maxRecDepth 20000 in
theorem ggX0_settleBest_X0_stepsApart : GoodIn wsX0_settleBest wsX0_stepsApart := goodIn_r _ [15, 16, 17, 18, 19, 20, 21, 22, 23, 4, 24, 25, 26, 27, 28, 29, 30, 31, 32, 33, 34, 35, 36, 37, 38, 39, 40, 41, 42, 43, 44, 45, 46, 47, 48, 49, 76, 77, 78, 79, 80, 81, 82, 83] (by decide +kernel) (by decide +kernel)
set_option maxRecDepth 20000 in
theorem gX0_settleBest_X0_stepsApart : GoodIn wsX0_settleBest (va_wsS RX0 42 yX0_stepsApart wsX0_stepsApart) := goodIn_app (goodIn_of _ (by decide +kernel)) ggX0_settleBest_X0_stepsApart
set_option maxRecDepth 20000 in
theorem ggX0_settleBest_X0_place : GoodIn wsX0_settleBest wsX0_place := goodIn_r _ [53, 6, 8, 54, 7, 55, 56, 57, 14, 58, 11, 59, 60, 61, 62, 63, 64, 65, 9, 66, 67, 68, 69, 70, 71, 72, 73, 74, 75, 50, 51, 52, 84, 85, 86, 87, 88, 89] (by decide +kernel) (by decide +kernel)
set_option maxRecDepth 20000 in
theorem gX0_settleBest_X0_place : GoodIn wsX0_settleBest (wsV RX0 46 RX0 yX0_place wsX0_place) := goodIn_app (goodIn_of _ (by decide +kernel)) ggX0_settleBest_X0_place
theorem dX0_settleBest_0 : decode cX0_settleBest 0 = .ok (.aload_n 0, 1) := by decide +kernel
theorem dX0_settleBest_1 : decode cX0_settleBest 1 = .ok (.aload_n 1, 1) := by decide +kernel
theorem dX0_settleBest_2 : decode cX0_settleBest 2 = .ok (.getfield 33, 3) := by decide +kernel
theorem dX0_settleBest_5 : decode cX0_settleBest 5 = .ok (.bipush 6, 2) := by decide +kernel
theorem dX0_settleBest_7 : decode cX0_settleBest 7 = .ok (.invokestatic 36, 3) := by decide +kernel
theorem dX0_settleBest_10 : decode cX0_settleBest 10 = .ok (.putfield 26, 3) := by decide +kernel
theorem dX0_settleBest_13 : decode cX0_settleBest 13 = .ok (.aload_n 0, 1) := by decide +kernel
theorem dX0_settleBest_14 : decode cX0_settleBest 14 = .ok (.sipush 448, 3) := by decide +kernel
theorem dX0_settleBest_17 : decode cX0_settleBest 17 = .ok (.putfield 30, 3) := by decide +kernel
theorem dX0_settleBest_20 : decode cX0_settleBest 20 = .ok (.iconst 0, 1) := by decide +kernel
theorem dX0_settleBest_21 : decode cX0_settleBest 21 = .ok (.istore_n 2, 1) := by decide +kernel
theorem dX0_settleBest_22 : decode cX0_settleBest 22 = .ok (.iload_n 2, 1) := by decide +kernel
theorem dX0_settleBest_23 : decode cX0_settleBest 23 = .ok (.aload_n 0, 1) := by decide +kernel
theorem dX0_settleBest_24 : decode cX0_settleBest 24 = .ok (.getfield 26, 3) := by decide +kernel
theorem dX0_settleBest_27 : decode cX0_settleBest 27 = .ok (.if_icmp .ge 51, 3) := by decide +kernel
theorem dX0_settleBest_30 : decode cX0_settleBest 30 = .ok (.aload_n 0, 1) := by decide +kernel
theorem dX0_settleBest_31 : decode cX0_settleBest 31 = .ok (.getfield 16, 3) := by decide +kernel
theorem dX0_settleBest_34 : decode cX0_settleBest 34 = .ok (.iconst 0, 1) := by decide +kernel
theorem dX0_settleBest_35 : decode cX0_settleBest 35 = .ok (.aaload, 1) := by decide +kernel
theorem dX0_settleBest_36 : decode cX0_settleBest 36 = .ok (.iload_n 2, 1) := by decide +kernel
theorem dX0_settleBest_37 : decode cX0_settleBest 37 = .ok (.bipush 127, 2) := by decide +kernel
theorem dX0_settleBest_39 : decode cX0_settleBest 39 = .ok (.iastore, 1) := by decide +kernel
theorem dX0_settleBest_40 : decode cX0_settleBest 40 = .ok (.iload_n 2, 1) := by decide +kernel
theorem dX0_settleBest_41 : decode cX0_settleBest 41 = .ok (.iconst 1, 1) := by decide +kernel
theorem dX0_settleBest_42 : decode cX0_settleBest 42 = .ok (.iadd, 1) := by decide +kernel
theorem dX0_settleBest_43 : decode cX0_settleBest 43 = .ok (.istore_n 3, 1) := by decide +kernel
theorem dX0_settleBest_44 : decode cX0_settleBest 44 = .ok (.iload_n 3, 1) := by decide +kernel
theorem dX0_settleBest_45 : decode cX0_settleBest 45 = .ok (.aload_n 0, 1) := by decide +kernel
theorem dX0_settleBest_46 : decode cX0_settleBest 46 = .ok (.getfield 26, 3) := by decide +kernel
theorem dX0_settleBest_49 : decode cX0_settleBest 49 = .ok (.if_icmp .ge 23, 3) := by decide +kernel
theorem dX0_settleBest_52 : decode cX0_settleBest 52 = .ok (.aload_n 0, 1) := by decide +kernel
theorem dX0_settleBest_53 : decode cX0_settleBest 53 = .ok (.getfield 13, 3) := by decide +kernel
theorem dX0_settleBest_56 : decode cX0_settleBest 56 = .ok (.iload_n 2, 1) := by decide +kernel
theorem dX0_settleBest_57 : decode cX0_settleBest 57 = .ok (.aaload, 1) := by decide +kernel
theorem dX0_settleBest_58 : decode cX0_settleBest 58 = .ok (.iload_n 3, 1) := by decide +kernel
theorem dX0_settleBest_59 : decode cX0_settleBest 59 = .ok (.aload_n 1, 1) := by decide +kernel
theorem dX0_settleBest_60 : decode cX0_settleBest 60 = .ok (.iload_n 2, 1) := by decide +kernel
theorem dX0_settleBest_61 : decode cX0_settleBest 61 = .ok (.iload_n 3, 1) := by decide +kernel
theorem dX0_settleBest_62 : decode cX0_settleBest 62 = .ok (.invokestatic 42, 3) := by decide +kernel
theorem dX0_settleBest_65 : decode cX0_settleBest 65 = .ok (.iastore, 1) := by decide +kernel
theorem dX0_settleBest_66 : decode cX0_settleBest 66 = .ok (.iinc 3 1, 3) := by decide +kernel
theorem dX0_settleBest_69 : decode cX0_settleBest 69 = .ok (.goto (-25), 3) := by decide +kernel
theorem dX0_settleBest_72 : decode cX0_settleBest 72 = .ok (.iinc 2 1, 3) := by decide +kernel
theorem dX0_settleBest_75 : decode cX0_settleBest 75 = .ok (.goto (-53), 3) := by decide +kernel
theorem dX0_settleBest_78 : decode cX0_settleBest 78 = .ok (.aload_n 0, 1) := by decide +kernel
theorem dX0_settleBest_79 : decode cX0_settleBest 79 = .ok (.iconst 0, 1) := by decide +kernel
theorem dX0_settleBest_80 : decode cX0_settleBest 80 = .ok (.iconst 0, 1) := by decide +kernel
theorem dX0_settleBest_81 : decode cX0_settleBest 81 = .ok (.invokevirtual 46, 3) := by decide +kernel
theorem dX0_settleBest_84 : decode cX0_settleBest 84 = .ok (.aload_n 0, 1) := by decide +kernel
theorem dX0_settleBest_85 : decode cX0_settleBest 85 = .ok (.getfield 30, 3) := by decide +kernel
theorem dX0_settleBest_88 : decode cX0_settleBest 88 = .ok (.sipush 448, 3) := by decide +kernel
theorem dX0_settleBest_91 : decode cX0_settleBest 91 = .ok (.if_icmp .ne 5, 3) := by decide +kernel
theorem dX0_settleBest_94 : decode cX0_settleBest 94 = .ok (.iconst (-1), 1) := by decide +kernel
theorem dX0_settleBest_95 : decode cX0_settleBest 95 = .ok (.ireturn, 1) := by decide +kernel
theorem dX0_settleBest_96 : decode cX0_settleBest 96 = .ok (.iconst 0, 1) := by decide +kernel
theorem dX0_settleBest_97 : decode cX0_settleBest 97 = .ok (.istore_n 2, 1) := by decide +kernel
theorem dX0_settleBest_98 : decode cX0_settleBest 98 = .ok (.iload_n 2, 1) := by decide +kernel
theorem dX0_settleBest_99 : decode cX0_settleBest 99 = .ok (.aload_n 0, 1) := by decide +kernel
theorem dX0_settleBest_100 : decode cX0_settleBest 100 = .ok (.getfield 26, 3) := by decide +kernel
theorem dX0_settleBest_103 : decode cX0_settleBest 103 = .ok (.if_icmp .ge 23, 3) := by decide +kernel
theorem dX0_settleBest_106 : decode cX0_settleBest 106 = .ok (.aload_n 1, 1) := by decide +kernel
theorem dX0_settleBest_107 : decode cX0_settleBest 107 = .ok (.getfield 50, 3) := by decide +kernel
theorem dX0_settleBest_110 : decode cX0_settleBest 110 = .ok (.iload_n 2, 1) := by decide +kernel
theorem dX0_settleBest_111 : decode cX0_settleBest 111 = .ok (.aload_n 0, 1) := by decide +kernel
theorem dX0_settleBest_112 : decode cX0_settleBest 112 = .ok (.getfield 23, 3) := by decide +kernel
theorem dX0_settleBest_115 : decode cX0_settleBest 115 = .ok (.iload_n 2, 1) := by decide +kernel
theorem dX0_settleBest_116 : decode cX0_settleBest 116 = .ok (.iaload, 1) := by decide +kernel
theorem dX0_settleBest_117 : decode cX0_settleBest 117 = .ok (.iconst 5, 1) := by decide +kernel
theorem dX0_settleBest_118 : decode cX0_settleBest 118 = .ok (.imul, 1) := by decide +kernel
theorem dX0_settleBest_119 : decode cX0_settleBest 119 = .ok (.iastore, 1) := by decide +kernel
theorem dX0_settleBest_120 : decode cX0_settleBest 120 = .ok (.iinc 2 1, 3) := by decide +kernel
theorem dX0_settleBest_123 : decode cX0_settleBest 123 = .ok (.goto (-25), 3) := by decide +kernel
theorem dX0_settleBest_126 : decode cX0_settleBest 126 = .ok (.aload_n 0, 1) := by decide +kernel
theorem dX0_settleBest_127 : decode cX0_settleBest 127 = .ok (.getfield 30, 3) := by decide +kernel
theorem dX0_settleBest_130 : decode cX0_settleBest 130 = .ok (.bipush 64, 2) := by decide +kernel
theorem dX0_settleBest_132 : decode cX0_settleBest 132 = .ok (.idiv, 1) := by decide +kernel
theorem dX0_settleBest_133 : decode cX0_settleBest 133 = .ok (.ireturn, 1) := by decide +kernel
set_option maxRecDepth 20000 in
theorem ggX0_stepsApart_X3_firstRunMeetingWith : GoodIn wsX0_stepsApart wsX3_firstRunMeetingWith := goodIn_r _ [5, 6, 7, 8, 9, 10, 11, 12, 13, 4, 14, 15, 16, 17, 18, 19, 20, 21, 22, 23, 24, 25, 26, 27, 28, 29, 30, 31, 32, 33, 34, 35, 36, 37, 38, 39, 40, 41, 42, 43] (by decide +kernel) (by decide +kernel)
set_option maxRecDepth 20000 in
theorem gX0_stepsApart_X3_firstRunMeetingWith : GoodIn wsX0_stepsApart (wsV RX0 53 RX3 yX3_firstRunMeetingWith wsX3_firstRunMeetingWith) := goodIn_app (goodIn_of _ (by decide +kernel)) ggX0_stepsApart_X3_firstRunMeetingWith
theorem dX0_stepsApart_0 : decode cX0_stepsApart 0 = .ok (.iconst 0, 1) := by decide +kernel
theorem dX0_stepsApart_1 : decode cX0_stepsApart 1 = .ok (.istore_n 3, 1) := by decide +kernel
theorem dX0_stepsApart_2 : decode cX0_stepsApart 2 = .ok (.bipush (-6), 2) := by decide +kernel
theorem dX0_stepsApart_4 : decode cX0_stepsApart 4 = .ok (.istore 4, 2) := by decide +kernel
theorem dX0_stepsApart_6 : decode cX0_stepsApart 6 = .ok (.iload 4, 2) := by decide +kernel
theorem dX0_stepsApart_8 : decode cX0_stepsApart 8 = .ok (.bipush 6, 2) := by decide +kernel
theorem dX0_stepsApart_10 : decode cX0_stepsApart 10 = .ok (.if_icmp .gt 33, 3) := by decide +kernel
theorem dX0_stepsApart_13 : decode cX0_stepsApart 13 = .ok (.aload_n 0, 1) := by decide +kernel
theorem dX0_stepsApart_14 : decode cX0_stepsApart 14 = .ok (.iload_n 1, 1) := by decide +kernel
theorem dX0_stepsApart_15 : decode cX0_stepsApart 15 = .ok (.iload_n 2, 1) := by decide +kernel
theorem dX0_stepsApart_16 : decode cX0_stepsApart 16 = .ok (.iload 4, 2) := by decide +kernel
theorem dX0_stepsApart_18 : decode cX0_stepsApart 18 = .ok (.iconst 5, 1) := by decide +kernel
theorem dX0_stepsApart_19 : decode cX0_stepsApart 19 = .ok (.imul, 1) := by decide +kernel
theorem dX0_stepsApart_20 : decode cX0_stepsApart 20 = .ok (.invokevirtual 53, 3) := by decide +kernel
theorem dX0_stepsApart_23 : decode cX0_stepsApart 23 = .ok (.iconst (-1), 1) := by decide +kernel
theorem dX0_stepsApart_24 : decode cX0_stepsApart 24 = .ok (.if_icmp .ne 13, 3) := by decide +kernel
theorem dX0_stepsApart_27 : decode cX0_stepsApart 27 = .ok (.iload_n 3, 1) := by decide +kernel
theorem dX0_stepsApart_28 : decode cX0_stepsApart 28 = .ok (.iconst 1, 1) := by decide +kernel
theorem dX0_stepsApart_29 : decode cX0_stepsApart 29 = .ok (.iload 4, 2) := by decide +kernel
theorem dX0_stepsApart_31 : decode cX0_stepsApart 31 = .ok (.bipush 6, 2) := by decide +kernel
theorem dX0_stepsApart_33 : decode cX0_stepsApart 33 = .ok (.iadd, 1) := by decide +kernel
theorem dX0_stepsApart_34 : decode cX0_stepsApart 34 = .ok (.ishl, 1) := by decide +kernel
theorem dX0_stepsApart_35 : decode cX0_stepsApart 35 = .ok (.ior, 1) := by decide +kernel
theorem dX0_stepsApart_36 : decode cX0_stepsApart 36 = .ok (.istore_n 3, 1) := by decide +kernel
theorem dX0_stepsApart_37 : decode cX0_stepsApart 37 = .ok (.iinc 4 1, 3) := by decide +kernel
theorem dX0_stepsApart_40 : decode cX0_stepsApart 40 = .ok (.goto (-34), 3) := by decide +kernel
theorem dX0_stepsApart_43 : decode cX0_stepsApart 43 = .ok (.iload_n 3, 1) := by decide +kernel
theorem dX0_stepsApart_44 : decode cX0_stepsApart 44 = .ok (.ireturn, 1) := by decide +kernel
set_option maxRecDepth 20000 in
theorem ggX0_leastStep_J6_bitCount_0f7a4 : GoodIn wsX0_leastStep wsJ6_bitCount_0f7a4 := goodIn_r _ [4, 5, 6, 7] (by decide +kernel) (by decide +kernel)
set_option maxRecDepth 20000 in
theorem gX0_leastStep_J6_bitCount_0f7a4 : GoodIn wsX0_leastStep (va_wsS RX0 57 yJ6_bitCount_0f7a4 wsJ6_bitCount_0f7a4) := goodIn_app (goodIn_of _ (by decide +kernel)) ggX0_leastStep_J6_bitCount_0f7a4
theorem dX0_leastStep_0 : decode cX0_leastStep 0 = .ok (.iload_n 0, 1) := by decide +kernel
theorem dX0_leastStep_1 : decode cX0_leastStep 1 = .ok (.iload_n 0, 1) := by decide +kernel
theorem dX0_leastStep_2 : decode cX0_leastStep 2 = .ok (.ineg, 1) := by decide +kernel
theorem dX0_leastStep_3 : decode cX0_leastStep 3 = .ok (.iand, 1) := by decide +kernel
theorem dX0_leastStep_4 : decode cX0_leastStep 4 = .ok (.iconst 1, 1) := by decide +kernel
theorem dX0_leastStep_5 : decode cX0_leastStep 5 = .ok (.isub, 1) := by decide +kernel
theorem dX0_leastStep_6 : decode cX0_leastStep 6 = .ok (.invokestatic 57, 3) := by decide +kernel
theorem dX0_leastStep_9 : decode cX0_leastStep 9 = .ok (.ireturn, 1) := by decide +kernel
theorem dX0_costOf_0 : decode cX0_costOf 0 = .ok (.iload_n 0, 1) := by decide +kernel
theorem dX0_costOf_1 : decode cX0_costOf 1 = .ok (.ifCond .ne 7, 3) := by decide +kernel
theorem dX0_costOf_4 : decode cX0_costOf 4 = .ok (.iconst 0, 1) := by decide +kernel
theorem dX0_costOf_5 : decode cX0_costOf 5 = .ok (.goto 7, 3) := by decide +kernel
theorem dX0_costOf_8 : decode cX0_costOf 8 = .ok (.bipush 64, 2) := by decide +kernel
theorem dX0_costOf_10 : decode cX0_costOf 10 = .ok (.iload_n 0, 1) := by decide +kernel
theorem dX0_costOf_11 : decode cX0_costOf 11 = .ok (.iadd, 1) := by decide +kernel
theorem dX0_costOf_12 : decode cX0_costOf 12 = .ok (.ireturn, 1) := by decide +kernel
set_option maxRecDepth 20000 in
theorem ggX0_place_X0_keep : GoodIn wsX0_place wsX0_keep := goodIn_r _ [9, 4, 1, 10, 3, 32, 33, 34, 35, 36, 37] (by decide +kernel) (by decide +kernel)
set_option maxRecDepth 20000 in
theorem gX0_place_X0_keep : GoodIn wsX0_place (wsV RX0 63 RX0 yX0_keep wsX0_keep) := goodIn_app (goodIn_of _ (by decide +kernel)) ggX0_place_X0_keep
set_option maxRecDepth 20000 in
theorem ggX0_place_X0_costOf : GoodIn wsX0_place wsX0_costOf := goodIn_r _ [13] (by decide +kernel) (by decide +kernel)
set_option maxRecDepth 20000 in
theorem gX0_place_X0_costOf : GoodIn wsX0_place (va_wsS RX0 67 yX0_costOf wsX0_costOf) := goodIn_app (goodIn_of _ (by decide +kernel)) ggX0_place_X0_costOf
set_option maxRecDepth 20000 in
theorem ggX0_place_X0_costOfOthers : GoodIn wsX0_place wsX0_costOfOthers := goodIn_r _ [17, 1, 2, 18, 19, 20, 8, 21, 22, 23, 24, 25, 26, 27, 28, 11, 12, 13, 32, 33, 34, 35, 36, 37] (by decide +kernel) (by decide +kernel)
set_option maxRecDepth 20000 in
theorem gX0_place_X0_costOfOthers : GoodIn wsX0_place (wsV RX0 70 RX0 yX0_costOfOthers wsX0_costOfOthers) := goodIn_app (goodIn_of _ (by decide +kernel)) ggX0_place_X0_costOfOthers
set_option maxRecDepth 20000 in
theorem ggX0_place_X0_place : GoodIn wsX0_place wsX0_place := goodIn_r _ [0, 1, 2, 3, 4, 5, 6, 7, 8, 9, 10, 11, 12, 13, 14, 15, 16, 17, 18, 19, 20, 21, 22, 23, 24, 25, 26, 27, 28, 29, 30, 31, 32, 33, 34, 35, 36, 37] (by decide +kernel) (by decide +kernel)
set_option maxRecDepth 20000 in
theorem gX0_place_X0_place : GoodIn wsX0_place (wsV RX0 46 RX0 yX0_place wsX0_place) := goodIn_app (goodIn_of _ (by decide +kernel)) ggX0_place_X0_place
theorem dX0_place_0 : decode cX0_place 0 = .ok (.iload_n 1, 1) := by decide +kernel
theorem dX0_place_1 : decode cX0_place 1 = .ok (.ifCond .lt 17, 3) := by decide +kernel
theorem dX0_place_4 : decode cX0_place 4 = .ok (.iload_n 1, 1) := by decide +kernel
theorem dX0_place_5 : decode cX0_place 5 = .ok (.aload_n 0, 1) := by decide +kernel
theorem dX0_place_6 : decode cX0_place 6 = .ok (.getfield 26, 3) := by decide +kernel
theorem dX0_place_9 : decode cX0_place 9 = .ok (.if_icmp .ge 9, 3) := by decide +kernel
theorem dX0_place_12 : decode cX0_place 12 = .ok (.iload_n 1, 1) := by decide +kernel
theorem dX0_place_13 : decode cX0_place 13 = .ok (.bipush 6, 2) := by decide +kernel
theorem dX0_place_15 : decode cX0_place 15 = .ok (.if_icmp .lt 9, 3) := by decide +kernel
theorem dX0_place_18 : decode cX0_place 18 = .ok (.aload_n 0, 1) := by decide +kernel
theorem dX0_place_19 : decode cX0_place 19 = .ok (.iload_n 2, 1) := by decide +kernel
theorem dX0_place_20 : decode cX0_place 20 = .ok (.invokevirtual 63, 3) := by decide +kernel
theorem dX0_place_23 : decode cX0_place 23 = .ok (.return_, 1) := by decide +kernel
theorem dX0_place_24 : decode cX0_place 24 = .ok (.iconst 0, 1) := by decide +kernel
theorem dX0_place_25 : decode cX0_place 25 = .ok (.istore_n 3, 1) := by decide +kernel
theorem dX0_place_26 : decode cX0_place 26 = .ok (.iload_n 3, 1) := by decide +kernel
theorem dX0_place_27 : decode cX0_place 27 = .ok (.bipush 6, 2) := by decide +kernel
theorem dX0_place_29 : decode cX0_place 29 = .ok (.if_icmp .gt 64, 3) := by decide +kernel
theorem dX0_place_32 : decode cX0_place 32 = .ok (.aload_n 0, 1) := by decide +kernel
theorem dX0_place_33 : decode cX0_place 33 = .ok (.getfield 16, 3) := by decide +kernel
theorem dX0_place_36 : decode cX0_place 36 = .ok (.iload_n 1, 1) := by decide +kernel
theorem dX0_place_37 : decode cX0_place 37 = .ok (.aaload, 1) := by decide +kernel
theorem dX0_place_38 : decode cX0_place 38 = .ok (.iload_n 1, 1) := by decide +kernel
theorem dX0_place_39 : decode cX0_place 39 = .ok (.iaload, 1) := by decide +kernel
theorem dX0_place_40 : decode cX0_place 40 = .ok (.iconst 1, 1) := by decide +kernel
theorem dX0_place_41 : decode cX0_place 41 = .ok (.iload_n 3, 1) := by decide +kernel
theorem dX0_place_42 : decode cX0_place 42 = .ok (.ishl, 1) := by decide +kernel
theorem dX0_place_43 : decode cX0_place 43 = .ok (.iand, 1) := by decide +kernel
theorem dX0_place_44 : decode cX0_place 44 = .ok (.ifCond .eq 43, 3) := by decide +kernel
theorem dX0_place_47 : decode cX0_place 47 = .ok (.aload_n 0, 1) := by decide +kernel
theorem dX0_place_48 : decode cX0_place 48 = .ok (.getfield 19, 3) := by decide +kernel
theorem dX0_place_51 : decode cX0_place 51 = .ok (.iload_n 1, 1) := by decide +kernel
theorem dX0_place_52 : decode cX0_place 52 = .ok (.iload_n 3, 1) := by decide +kernel
theorem dX0_place_53 : decode cX0_place 53 = .ok (.iastore, 1) := by decide +kernel
theorem dX0_place_54 : decode cX0_place 54 = .ok (.iload_n 2, 1) := by decide +kernel
theorem dX0_place_55 : decode cX0_place 55 = .ok (.iload_n 3, 1) := by decide +kernel
theorem dX0_place_56 : decode cX0_place 56 = .ok (.invokestatic 67, 3) := by decide +kernel
theorem dX0_place_59 : decode cX0_place 59 = .ok (.iadd, 1) := by decide +kernel
theorem dX0_place_60 : decode cX0_place 60 = .ok (.istore 4, 2) := by decide +kernel
theorem dX0_place_62 : decode cX0_place 62 = .ok (.iload 4, 2) := by decide +kernel
theorem dX0_place_64 : decode cX0_place 64 = .ok (.aload_n 0, 1) := by decide +kernel
theorem dX0_place_65 : decode cX0_place 65 = .ok (.iload_n 1, 1) := by decide +kernel
theorem dX0_place_66 : decode cX0_place 66 = .ok (.iload_n 3, 1) := by decide +kernel
theorem dX0_place_67 : decode cX0_place 67 = .ok (.invokevirtual 70, 3) := by decide +kernel
theorem dX0_place_70 : decode cX0_place 70 = .ok (.iadd, 1) := by decide +kernel
theorem dX0_place_71 : decode cX0_place 71 = .ok (.aload_n 0, 1) := by decide +kernel
theorem dX0_place_72 : decode cX0_place 72 = .ok (.getfield 30, 3) := by decide +kernel
theorem dX0_place_75 : decode cX0_place 75 = .ok (.if_icmp .ge 12, 3) := by decide +kernel
theorem dX0_place_78 : decode cX0_place 78 = .ok (.aload_n 0, 1) := by decide +kernel
theorem dX0_place_79 : decode cX0_place 79 = .ok (.iload_n 1, 1) := by decide +kernel
theorem dX0_place_80 : decode cX0_place 80 = .ok (.iconst 1, 1) := by decide +kernel
theorem dX0_place_81 : decode cX0_place 81 = .ok (.iadd, 1) := by decide +kernel
theorem dX0_place_82 : decode cX0_place 82 = .ok (.iload 4, 2) := by decide +kernel
theorem dX0_place_84 : decode cX0_place 84 = .ok (.invokevirtual 46, 3) := by decide +kernel
theorem dX0_place_87 : decode cX0_place 87 = .ok (.iinc 3 1, 3) := by decide +kernel
theorem dX0_place_90 : decode cX0_place 90 = .ok (.goto (-64), 3) := by decide +kernel
theorem dX0_place_93 : decode cX0_place 93 = .ok (.return_, 1) := by decide +kernel
set_option maxRecDepth 20000 in
theorem ggX0_costOfOthers_X0_leastStep : GoodIn wsX0_costOfOthers wsX0_leastStep := goodIn_r _ [7, 8, 9, 10, 11, 12, 13, 14] (by decide +kernel) (by decide +kernel)
set_option maxRecDepth 20000 in
theorem gX0_costOfOthers_X0_leastStep : GoodIn wsX0_costOfOthers (va_wsS RX0 73 yX0_leastStep wsX0_leastStep) := goodIn_app (goodIn_of _ (by decide +kernel)) ggX0_costOfOthers_X0_leastStep
set_option maxRecDepth 20000 in
theorem ggX0_costOfOthers_X0_costOf : GoodIn wsX0_costOfOthers wsX0_costOf := goodIn_r _ [17] (by decide +kernel) (by decide +kernel)
set_option maxRecDepth 20000 in
theorem gX0_costOfOthers_X0_costOf : GoodIn wsX0_costOfOthers (va_wsS RX0 67 yX0_costOf wsX0_costOf) := goodIn_app (goodIn_of _ (by decide +kernel)) ggX0_costOfOthers_X0_costOf
theorem dX0_costOfOthers_0 : decode cX0_costOfOthers 0 = .ok (.iconst 0, 1) := by decide +kernel
theorem dX0_costOfOthers_1 : decode cX0_costOfOthers 1 = .ok (.istore_n 3, 1) := by decide +kernel
theorem dX0_costOfOthers_2 : decode cX0_costOfOthers 2 = .ok (.iload_n 1, 1) := by decide +kernel
theorem dX0_costOfOthers_3 : decode cX0_costOfOthers 3 = .ok (.iconst 1, 1) := by decide +kernel
theorem dX0_costOfOthers_4 : decode cX0_costOfOthers 4 = .ok (.iadd, 1) := by decide +kernel
theorem dX0_costOfOthers_5 : decode cX0_costOfOthers 5 = .ok (.istore 4, 2) := by decide +kernel
theorem dX0_costOfOthers_7 : decode cX0_costOfOthers 7 = .ok (.iload 4, 2) := by decide +kernel
theorem dX0_costOfOthers_9 : decode cX0_costOfOthers 9 = .ok (.aload_n 0, 1) := by decide +kernel
theorem dX0_costOfOthers_10 : decode cX0_costOfOthers 10 = .ok (.getfield 26, 3) := by decide +kernel
theorem dX0_costOfOthers_13 : decode cX0_costOfOthers 13 = .ok (.if_icmp .ge 68, 3) := by decide +kernel
theorem dX0_costOfOthers_16 : decode cX0_costOfOthers 16 = .ok (.aload_n 0, 1) := by decide +kernel
theorem dX0_costOfOthers_17 : decode cX0_costOfOthers 17 = .ok (.getfield 16, 3) := by decide +kernel
theorem dX0_costOfOthers_20 : decode cX0_costOfOthers 20 = .ok (.iload_n 1, 1) := by decide +kernel
theorem dX0_costOfOthers_21 : decode cX0_costOfOthers 21 = .ok (.aaload, 1) := by decide +kernel
theorem dX0_costOfOthers_22 : decode cX0_costOfOthers 22 = .ok (.iload 4, 2) := by decide +kernel
theorem dX0_costOfOthers_24 : decode cX0_costOfOthers 24 = .ok (.iaload, 1) := by decide +kernel
theorem dX0_costOfOthers_25 : decode cX0_costOfOthers 25 = .ok (.aload_n 0, 1) := by decide +kernel
theorem dX0_costOfOthers_26 : decode cX0_costOfOthers 26 = .ok (.getfield 13, 3) := by decide +kernel
theorem dX0_costOfOthers_29 : decode cX0_costOfOthers 29 = .ok (.iload_n 1, 1) := by decide +kernel
theorem dX0_costOfOthers_30 : decode cX0_costOfOthers 30 = .ok (.aaload, 1) := by decide +kernel
theorem dX0_costOfOthers_31 : decode cX0_costOfOthers 31 = .ok (.iload 4, 2) := by decide +kernel
theorem dX0_costOfOthers_33 : decode cX0_costOfOthers 33 = .ok (.iaload, 1) := by decide +kernel
theorem dX0_costOfOthers_34 : decode cX0_costOfOthers 34 = .ok (.bipush 6, 2) := by decide +kernel
theorem dX0_costOfOthers_36 : decode cX0_costOfOthers 36 = .ok (.iload_n 2, 1) := by decide +kernel
theorem dX0_costOfOthers_37 : decode cX0_costOfOthers 37 = .ok (.isub, 1) := by decide +kernel
theorem dX0_costOfOthers_38 : decode cX0_costOfOthers 38 = .ok (.ishr, 1) := by decide +kernel
theorem dX0_costOfOthers_39 : decode cX0_costOfOthers 39 = .ok (.iand, 1) := by decide +kernel
theorem dX0_costOfOthers_40 : decode cX0_costOfOthers 40 = .ok (.istore 5, 2) := by decide +kernel
theorem dX0_costOfOthers_42 : decode cX0_costOfOthers 42 = .ok (.iload 5, 2) := by decide +kernel
theorem dX0_costOfOthers_44 : decode cX0_costOfOthers 44 = .ok (.ifCond .ne 7, 3) := by decide +kernel
theorem dX0_costOfOthers_47 : decode cX0_costOfOthers 47 = .ok (.sipush 448, 3) := by decide +kernel
theorem dX0_costOfOthers_50 : decode cX0_costOfOthers 50 = .ok (.ireturn, 1) := by decide +kernel
theorem dX0_costOfOthers_51 : decode cX0_costOfOthers 51 = .ok (.aload_n 0, 1) := by decide +kernel
theorem dX0_costOfOthers_52 : decode cX0_costOfOthers 52 = .ok (.getfield 16, 3) := by decide +kernel
theorem dX0_costOfOthers_55 : decode cX0_costOfOthers 55 = .ok (.iload_n 1, 1) := by decide +kernel
theorem dX0_costOfOthers_56 : decode cX0_costOfOthers 56 = .ok (.iconst 1, 1) := by decide +kernel
theorem dX0_costOfOthers_57 : decode cX0_costOfOthers 57 = .ok (.iadd, 1) := by decide +kernel
theorem dX0_costOfOthers_58 : decode cX0_costOfOthers 58 = .ok (.aaload, 1) := by decide +kernel
theorem dX0_costOfOthers_59 : decode cX0_costOfOthers 59 = .ok (.iload 4, 2) := by decide +kernel
theorem dX0_costOfOthers_61 : decode cX0_costOfOthers 61 = .ok (.iload 5, 2) := by decide +kernel
theorem dX0_costOfOthers_63 : decode cX0_costOfOthers 63 = .ok (.iastore, 1) := by decide +kernel
theorem dX0_costOfOthers_64 : decode cX0_costOfOthers 64 = .ok (.iload_n 3, 1) := by decide +kernel
theorem dX0_costOfOthers_65 : decode cX0_costOfOthers 65 = .ok (.iload 5, 2) := by decide +kernel
theorem dX0_costOfOthers_67 : decode cX0_costOfOthers 67 = .ok (.invokestatic 73, 3) := by decide +kernel
theorem dX0_costOfOthers_70 : decode cX0_costOfOthers 70 = .ok (.invokestatic 67, 3) := by decide +kernel
theorem dX0_costOfOthers_73 : decode cX0_costOfOthers 73 = .ok (.iadd, 1) := by decide +kernel
theorem dX0_costOfOthers_74 : decode cX0_costOfOthers 74 = .ok (.istore_n 3, 1) := by decide +kernel
theorem dX0_costOfOthers_75 : decode cX0_costOfOthers 75 = .ok (.iinc 4 1, 3) := by decide +kernel
theorem dX0_costOfOthers_78 : decode cX0_costOfOthers 78 = .ok (.goto (-71), 3) := by decide +kernel
theorem dX0_costOfOthers_81 : decode cX0_costOfOthers 81 = .ok (.iload_n 3, 1) := by decide +kernel
theorem dX0_costOfOthers_82 : decode cX0_costOfOthers 82 = .ok (.ireturn, 1) := by decide +kernel
theorem dX0_keep_0 : decode cX0_keep 0 = .ok (.aload_n 0, 1) := by decide +kernel
theorem dX0_keep_1 : decode cX0_keep 1 = .ok (.iload_n 1, 1) := by decide +kernel
theorem dX0_keep_2 : decode cX0_keep 2 = .ok (.putfield 30, 3) := by decide +kernel
theorem dX0_keep_5 : decode cX0_keep 5 = .ok (.iconst 0, 1) := by decide +kernel
theorem dX0_keep_6 : decode cX0_keep 6 = .ok (.istore_n 2, 1) := by decide +kernel
theorem dX0_keep_7 : decode cX0_keep 7 = .ok (.iload_n 2, 1) := by decide +kernel
theorem dX0_keep_8 : decode cX0_keep 8 = .ok (.aload_n 0, 1) := by decide +kernel
theorem dX0_keep_9 : decode cX0_keep 9 = .ok (.getfield 26, 3) := by decide +kernel
theorem dX0_keep_12 : decode cX0_keep 12 = .ok (.if_icmp .ge 21, 3) := by decide +kernel
theorem dX0_keep_15 : decode cX0_keep 15 = .ok (.aload_n 0, 1) := by decide +kernel
theorem dX0_keep_16 : decode cX0_keep 16 = .ok (.getfield 23, 3) := by decide +kernel
theorem dX0_keep_19 : decode cX0_keep 19 = .ok (.iload_n 2, 1) := by decide +kernel
theorem dX0_keep_20 : decode cX0_keep 20 = .ok (.aload_n 0, 1) := by decide +kernel
theorem dX0_keep_21 : decode cX0_keep 21 = .ok (.getfield 19, 3) := by decide +kernel
theorem dX0_keep_24 : decode cX0_keep 24 = .ok (.iload_n 2, 1) := by decide +kernel
theorem dX0_keep_25 : decode cX0_keep 25 = .ok (.iaload, 1) := by decide +kernel
theorem dX0_keep_26 : decode cX0_keep 26 = .ok (.iastore, 1) := by decide +kernel
theorem dX0_keep_27 : decode cX0_keep 27 = .ok (.iinc 2 1, 3) := by decide +kernel
theorem dX0_keep_30 : decode cX0_keep 30 = .ok (.goto (-23), 3) := by decide +kernel
theorem dX0_keep_33 : decode cX0_keep 33 = .ok (.return_, 1) := by decide +kernel
theorem dX1_init_0 : decode cX1_init 0 = .ok (.aload_n 0, 1) := by decide +kernel
theorem dX1_init_1 : decode cX1_init 1 = .ok (.invokespecial 3, 3) := by decide +kernel
theorem dX1_init_4 : decode cX1_init 4 = .ok (.aload_n 0, 1) := by decide +kernel
theorem dX1_init_5 : decode cX1_init 5 = .ok (.bipush 6, 2) := by decide +kernel
theorem dX1_init_7 : decode cX1_init 7 = .ok (.newarray .int, 2) := by decide +kernel
theorem dX1_init_9 : decode cX1_init 9 = .ok (.putfield 9, 3) := by decide +kernel
theorem dX1_init_12 : decode cX1_init 12 = .ok (.aload_n 0, 1) := by decide +kernel
theorem dX1_init_13 : decode cX1_init 13 = .ok (.bipush 6, 2) := by decide +kernel
theorem dX1_init_15 : decode cX1_init 15 = .ok (.newarray .int, 2) := by decide +kernel
theorem dX1_init_17 : decode cX1_init 17 = .ok (.putfield 15, 3) := by decide +kernel
theorem dX1_init_20 : decode cX1_init 20 = .ok (.aload_n 0, 1) := by decide +kernel
theorem dX1_init_21 : decode cX1_init 21 = .ok (.iconst 0, 1) := by decide +kernel
theorem dX1_init_22 : decode cX1_init 22 = .ok (.putfield 18, 3) := by decide +kernel
theorem dX1_init_25 : decode cX1_init 25 = .ok (.aload_n 0, 1) := by decide +kernel
theorem dX1_init_26 : decode cX1_init 26 = .ok (.iconst 0, 1) := by decide +kernel
theorem dX1_init_27 : decode cX1_init 27 = .ok (.putfield 22, 3) := by decide +kernel
theorem dX1_init_30 : decode cX1_init 30 = .ok (.aload_n 0, 1) := by decide +kernel
theorem dX1_init_31 : decode cX1_init 31 = .ok (.iconst 1, 1) := by decide +kernel
theorem dX1_init_32 : decode cX1_init 32 = .ok (.putfield 25, 3) := by decide +kernel
theorem dX1_init_35 : decode cX1_init 35 = .ok (.aload_n 0, 1) := by decide +kernel
theorem dX1_init_36 : decode cX1_init 36 = .ok (.iconst 0, 1) := by decide +kernel
theorem dX1_init_37 : decode cX1_init 37 = .ok (.putfield 28, 3) := by decide +kernel
theorem dX1_init_40 : decode cX1_init 40 = .ok (.return_, 1) := by decide +kernel
set_option maxRecDepth 20000 in
theorem ggX1_take_X7_signAt : GoodIn wsX1_take wsX7_signAt := goodIn_r _ [13, 14, 15, 53, 54] (by decide +kernel) (by decide +kernel)
set_option maxRecDepth 20000 in
theorem gX1_take_X7_signAt : GoodIn wsX1_take (wsV RX1 42 RX7 yX7_signAt wsX7_signAt) := goodIn_app (goodIn_of _ (by decide +kernel)) ggX1_take_X7_signAt
set_option maxRecDepth 20000 in
theorem ggX1_take_X1_takeSign : GoodIn wsX1_take wsX1_takeSign := goodIn_r _ [20, 1, 21, 22, 23, 19, 24, 25, 26, 27, 28, 29, 30, 31, 32, 33, 2, 3, 34, 35, 36, 37, 38, 39, 40, 41, 42, 43, 44, 45, 46, 47, 48, 49, 50, 51, 52] (by decide +kernel) (by decide +kernel)
set_option maxRecDepth 20000 in
theorem gX1_take_X1_takeSign : GoodIn wsX1_take (wsV RX1 46 RX1 yX1_takeSign wsX1_takeSign) := goodIn_app (goodIn_of _ (by decide +kernel)) ggX1_take_X1_takeSign
theorem dX1_take_0 : decode cX1_take 0 = .ok (.aload_n 0, 1) := by decide +kernel
theorem dX1_take_1 : decode cX1_take 1 = .ok (.iconst 0, 1) := by decide +kernel
theorem dX1_take_2 : decode cX1_take 2 = .ok (.putfield 18, 3) := by decide +kernel
theorem dX1_take_5 : decode cX1_take 5 = .ok (.iconst 0, 1) := by decide +kernel
theorem dX1_take_6 : decode cX1_take 6 = .ok (.istore_n 2, 1) := by decide +kernel
theorem dX1_take_7 : decode cX1_take 7 = .ok (.iload_n 2, 1) := by decide +kernel
theorem dX1_take_8 : decode cX1_take 8 = .ok (.bipush 6, 2) := by decide +kernel
theorem dX1_take_10 : decode cX1_take 10 = .ok (.if_icmp .ge 24, 3) := by decide +kernel
theorem dX1_take_13 : decode cX1_take 13 = .ok (.aload_n 0, 1) := by decide +kernel
theorem dX1_take_14 : decode cX1_take 14 = .ok (.getfield 9, 3) := by decide +kernel
theorem dX1_take_17 : decode cX1_take 17 = .ok (.iload_n 2, 1) := by decide +kernel
theorem dX1_take_18 : decode cX1_take 18 = .ok (.bipush 99, 2) := by decide +kernel
theorem dX1_take_20 : decode cX1_take 20 = .ok (.iastore, 1) := by decide +kernel
theorem dX1_take_21 : decode cX1_take 21 = .ok (.aload_n 0, 1) := by decide +kernel
theorem dX1_take_22 : decode cX1_take 22 = .ok (.getfield 15, 3) := by decide +kernel
theorem dX1_take_25 : decode cX1_take 25 = .ok (.iload_n 2, 1) := by decide +kernel
theorem dX1_take_26 : decode cX1_take 26 = .ok (.iconst 0, 1) := by decide +kernel
theorem dX1_take_27 : decode cX1_take 27 = .ok (.iastore, 1) := by decide +kernel
theorem dX1_take_28 : decode cX1_take 28 = .ok (.iinc 2 1, 3) := by decide +kernel
theorem dX1_take_31 : decode cX1_take 31 = .ok (.goto (-24), 3) := by decide +kernel
theorem dX1_take_34 : decode cX1_take 34 = .ok (.aload_n 1, 1) := by decide +kernel
theorem dX1_take_35 : decode cX1_take 35 = .ok (.getfield 31, 3) := by decide +kernel
theorem dX1_take_38 : decode cX1_take 38 = .ok (.bipush 40, 2) := by decide +kernel
theorem dX1_take_40 : decode cX1_take 40 = .ok (.invokestatic 36, 3) := by decide +kernel
theorem dX1_take_43 : decode cX1_take 43 = .ok (.istore_n 2, 1) := by decide +kernel
theorem dX1_take_44 : decode cX1_take 44 = .ok (.iconst 0, 1) := by decide +kernel
theorem dX1_take_45 : decode cX1_take 45 = .ok (.istore_n 3, 1) := by decide +kernel
theorem dX1_take_46 : decode cX1_take 46 = .ok (.iload_n 3, 1) := by decide +kernel
theorem dX1_take_47 : decode cX1_take 47 = .ok (.iload_n 2, 1) := by decide +kernel
theorem dX1_take_48 : decode cX1_take 48 = .ok (.if_icmp .ge 23, 3) := by decide +kernel
theorem dX1_take_51 : decode cX1_take 51 = .ok (.aload_n 0, 1) := by decide +kernel
theorem dX1_take_52 : decode cX1_take 52 = .ok (.aload_n 1, 1) := by decide +kernel
theorem dX1_take_53 : decode cX1_take 53 = .ok (.iload_n 3, 1) := by decide +kernel
theorem dX1_take_54 : decode cX1_take 54 = .ok (.invokevirtual 42, 3) := by decide +kernel
theorem dX1_take_57 : decode cX1_take 57 = .ok (.invokevirtual 46, 3) := by decide +kernel
theorem dX1_take_60 : decode cX1_take 60 = .ok (.ifCond .ne 5, 3) := by decide +kernel
theorem dX1_take_63 : decode cX1_take 63 = .ok (.iload_n 3, 1) := by decide +kernel
theorem dX1_take_64 : decode cX1_take 64 = .ok (.ireturn, 1) := by decide +kernel
theorem dX1_take_65 : decode cX1_take 65 = .ok (.iinc 3 1, 3) := by decide +kernel
theorem dX1_take_68 : decode cX1_take 68 = .ok (.goto (-22), 3) := by decide +kernel
theorem dX1_take_71 : decode cX1_take 71 = .ok (.aload_n 1, 1) := by decide +kernel
theorem dX1_take_72 : decode cX1_take 72 = .ok (.getfield 31, 3) := by decide +kernel
theorem dX1_take_75 : decode cX1_take 75 = .ok (.bipush 40, 2) := by decide +kernel
theorem dX1_take_77 : decode cX1_take 77 = .ok (.if_icmp .gt 11, 3) := by decide +kernel
theorem dX1_take_80 : decode cX1_take 80 = .ok (.aload_n 0, 1) := by decide +kernel
theorem dX1_take_81 : decode cX1_take 81 = .ok (.getfield 18, 3) := by decide +kernel
theorem dX1_take_84 : decode cX1_take 84 = .ok (.iconst 4, 1) := by decide +kernel
theorem dX1_take_85 : decode cX1_take 85 = .ok (.if_icmp .ge 7, 3) := by decide +kernel
theorem dX1_take_88 : decode cX1_take 88 = .ok (.iload_n 2, 1) := by decide +kernel
theorem dX1_take_89 : decode cX1_take 89 = .ok (.goto 4, 3) := by decide +kernel
theorem dX1_take_92 : decode cX1_take 92 = .ok (.iconst (-1), 1) := by decide +kernel
theorem dX1_take_93 : decode cX1_take 93 = .ok (.ireturn, 1) := by decide +kernel
set_option maxRecDepth 20000 in
theorem ggX1_takeSign_X1_takeMatter : GoodIn wsX1_takeSign wsX1_takeMatter := goodIn_r _ [6, 7, 1, 31, 32, 33, 34, 35, 36] (by decide +kernel) (by decide +kernel)
set_option maxRecDepth 20000 in
theorem gX1_takeSign_X1_takeMatter : GoodIn wsX1_takeSign (wsV RX1 50 RX1 yX1_takeMatter wsX1_takeMatter) := goodIn_app (goodIn_of _ (by decide +kernel)) ggX1_takeSign_X1_takeMatter
set_option maxRecDepth 20000 in
theorem ggX1_takeSign_X1_takeMark : GoodIn wsX1_takeSign wsX1_takeMark := goodIn_r _ [11, 1, 31, 32, 33, 34, 35, 36] (by decide +kernel) (by decide +kernel)
set_option maxRecDepth 20000 in
theorem gX1_takeSign_X1_takeMark : GoodIn wsX1_takeSign (wsV RX1 53 RX1 yX1_takeMark wsX1_takeMark) := goodIn_app (goodIn_of _ (by decide +kernel)) ggX1_takeSign_X1_takeMark
set_option maxRecDepth 20000 in
theorem ggX1_takeSign_X1_takeTime : GoodIn wsX1_takeSign wsX1_takeTime := goodIn_r _ [15, 7, 16, 17, 1, 18, 19, 20, 31, 32, 33, 34, 35, 36] (by decide +kernel) (by decide +kernel)
set_option maxRecDepth 20000 in
theorem gX1_takeSign_X1_takeTime : GoodIn wsX1_takeSign (wsV RX1 57 RX1 yX1_takeTime wsX1_takeTime) := goodIn_app (goodIn_of _ (by decide +kernel)) ggX1_takeSign_X1_takeTime
set_option maxRecDepth 20000 in
theorem ggX1_takeSign_X1_takeDigit : GoodIn wsX1_takeSign wsX1_takeDigit := goodIn_r _ [24, 25, 7, 17, 26, 1, 18, 19, 20, 31, 32, 33, 34, 35, 36] (by decide +kernel) (by decide +kernel)
set_option maxRecDepth 20000 in
theorem gX1_takeSign_X1_takeDigit : GoodIn wsX1_takeSign (wsV RX1 60 RX1 yX1_takeDigit wsX1_takeDigit) := goodIn_app (goodIn_of _ (by decide +kernel)) ggX1_takeSign_X1_takeDigit
set_option maxRecDepth 20000 in
theorem ggX1_takeSign_X1_takeSense : GoodIn wsX1_takeSign wsX1_takeSense := goodIn_r _ [30, 26, 25, 1, 31, 32, 33, 34, 35, 36] (by decide +kernel) (by decide +kernel)
set_option maxRecDepth 20000 in
theorem gX1_takeSign_X1_takeSense : GoodIn wsX1_takeSign (wsV RX1 63 RX1 yX1_takeSense wsX1_takeSense) := goodIn_app (goodIn_of _ (by decide +kernel)) ggX1_takeSign_X1_takeSense
theorem dX1_takeSign_0 : decode cX1_takeSign 0 = .ok (.aload_n 0, 1) := by decide +kernel
theorem dX1_takeSign_1 : decode cX1_takeSign 1 = .ok (.getfield 18, 3) := by decide +kernel
theorem dX1_takeSign_4 : decode cX1_takeSign 4 = .ok (.tableswitch 88 0 4 #[36, 42, 51, 57, 63], 36) := by decide +kernel
theorem dX1_takeSign_40 : decode cX1_takeSign 40 = .ok (.aload_n 0, 1) := by decide +kernel
theorem dX1_takeSign_41 : decode cX1_takeSign 41 = .ok (.iload_n 1, 1) := by decide +kernel
theorem dX1_takeSign_42 : decode cX1_takeSign 42 = .ok (.invokevirtual 50, 3) := by decide +kernel
theorem dX1_takeSign_45 : decode cX1_takeSign 45 = .ok (.ireturn, 1) := by decide +kernel
theorem dX1_takeSign_46 : decode cX1_takeSign 46 = .ok (.aload_n 0, 1) := by decide +kernel
theorem dX1_takeSign_47 : decode cX1_takeSign 47 = .ok (.iload_n 1, 1) := by decide +kernel
theorem dX1_takeSign_48 : decode cX1_takeSign 48 = .ok (.bipush 61, 2) := by decide +kernel
theorem dX1_takeSign_50 : decode cX1_takeSign 50 = .ok (.iconst 2, 1) := by decide +kernel
theorem dX1_takeSign_51 : decode cX1_takeSign 51 = .ok (.invokevirtual 53, 3) := by decide +kernel
theorem dX1_takeSign_54 : decode cX1_takeSign 54 = .ok (.ireturn, 1) := by decide +kernel
theorem dX1_takeSign_55 : decode cX1_takeSign 55 = .ok (.aload_n 0, 1) := by decide +kernel
theorem dX1_takeSign_56 : decode cX1_takeSign 56 = .ok (.iload_n 1, 1) := by decide +kernel
theorem dX1_takeSign_57 : decode cX1_takeSign 57 = .ok (.invokevirtual 57, 3) := by decide +kernel
theorem dX1_takeSign_60 : decode cX1_takeSign 60 = .ok (.ireturn, 1) := by decide +kernel
theorem dX1_takeSign_61 : decode cX1_takeSign 61 = .ok (.aload_n 0, 1) := by decide +kernel
theorem dX1_takeSign_62 : decode cX1_takeSign 62 = .ok (.iload_n 1, 1) := by decide +kernel
theorem dX1_takeSign_63 : decode cX1_takeSign 63 = .ok (.invokevirtual 60, 3) := by decide +kernel
theorem dX1_takeSign_66 : decode cX1_takeSign 66 = .ok (.ireturn, 1) := by decide +kernel
theorem dX1_takeSign_67 : decode cX1_takeSign 67 = .ok (.aload_n 0, 1) := by decide +kernel
theorem dX1_takeSign_68 : decode cX1_takeSign 68 = .ok (.iload_n 1, 1) := by decide +kernel
theorem dX1_takeSign_69 : decode cX1_takeSign 69 = .ok (.invokevirtual 63, 3) := by decide +kernel
theorem dX1_takeSign_72 : decode cX1_takeSign 72 = .ok (.ifCond .ne 14, 3) := by decide +kernel
theorem dX1_takeSign_75 : decode cX1_takeSign 75 = .ok (.aload_n 0, 1) := by decide +kernel
theorem dX1_takeSign_76 : decode cX1_takeSign 76 = .ok (.iload_n 1, 1) := by decide +kernel
theorem dX1_takeSign_77 : decode cX1_takeSign 77 = .ok (.bipush 59, 2) := by decide +kernel
theorem dX1_takeSign_79 : decode cX1_takeSign 79 = .ok (.iconst 0, 1) := by decide +kernel
theorem dX1_takeSign_80 : decode cX1_takeSign 80 = .ok (.invokevirtual 53, 3) := by decide +kernel
theorem dX1_takeSign_83 : decode cX1_takeSign 83 = .ok (.ifCond .eq 7, 3) := by decide +kernel
theorem dX1_takeSign_86 : decode cX1_takeSign 86 = .ok (.iconst 1, 1) := by decide +kernel
theorem dX1_takeSign_87 : decode cX1_takeSign 87 = .ok (.goto 4, 3) := by decide +kernel
theorem dX1_takeSign_90 : decode cX1_takeSign 90 = .ok (.iconst 0, 1) := by decide +kernel
theorem dX1_takeSign_91 : decode cX1_takeSign 91 = .ok (.ireturn, 1) := by decide +kernel
theorem dX1_takeSign_92 : decode cX1_takeSign 92 = .ok (.aload_n 0, 1) := by decide +kernel
theorem dX1_takeSign_93 : decode cX1_takeSign 93 = .ok (.iload_n 1, 1) := by decide +kernel
theorem dX1_takeSign_94 : decode cX1_takeSign 94 = .ok (.invokevirtual 60, 3) := by decide +kernel
theorem dX1_takeSign_97 : decode cX1_takeSign 97 = .ok (.ifCond .ne 14, 3) := by decide +kernel
theorem dX1_takeSign_100 : decode cX1_takeSign 100 = .ok (.aload_n 0, 1) := by decide +kernel
theorem dX1_takeSign_101 : decode cX1_takeSign 101 = .ok (.iload_n 1, 1) := by decide +kernel
theorem dX1_takeSign_102 : decode cX1_takeSign 102 = .ok (.bipush 59, 2) := by decide +kernel
theorem dX1_takeSign_104 : decode cX1_takeSign 104 = .ok (.iconst 0, 1) := by decide +kernel
theorem dX1_takeSign_105 : decode cX1_takeSign 105 = .ok (.invokevirtual 53, 3) := by decide +kernel
theorem dX1_takeSign_108 : decode cX1_takeSign 108 = .ok (.ifCond .eq 7, 3) := by decide +kernel
theorem dX1_takeSign_111 : decode cX1_takeSign 111 = .ok (.iconst 1, 1) := by decide +kernel
theorem dX1_takeSign_112 : decode cX1_takeSign 112 = .ok (.goto 4, 3) := by decide +kernel
theorem dX1_takeSign_115 : decode cX1_takeSign 115 = .ok (.iconst 0, 1) := by decide +kernel
theorem dX1_takeSign_116 : decode cX1_takeSign 116 = .ok (.ireturn, 1) := by decide +kernel
theorem dX1_takeMatter_0 : decode cX1_takeMatter 0 = .ok (.iload_n 1, 1) := by decide +kernel
theorem dX1_takeMatter_1 : decode cX1_takeMatter 1 = .ok (.bipush 97, 2) := by decide +kernel
theorem dX1_takeMatter_3 : decode cX1_takeMatter 3 = .ok (.if_icmp .lt 9, 3) := by decide +kernel
theorem dX1_takeMatter_6 : decode cX1_takeMatter 6 = .ok (.iload_n 1, 1) := by decide +kernel
theorem dX1_takeMatter_7 : decode cX1_takeMatter 7 = .ok (.bipush 102, 2) := by decide +kernel
theorem dX1_takeMatter_9 : decode cX1_takeMatter 9 = .ok (.if_icmp .le 5, 3) := by decide +kernel
theorem dX1_takeMatter_12 : decode cX1_takeMatter 12 = .ok (.iconst 0, 1) := by decide +kernel
theorem dX1_takeMatter_13 : decode cX1_takeMatter 13 = .ok (.ireturn, 1) := by decide +kernel
theorem dX1_takeMatter_14 : decode cX1_takeMatter 14 = .ok (.aload_n 0, 1) := by decide +kernel
theorem dX1_takeMatter_15 : decode cX1_takeMatter 15 = .ok (.iload_n 1, 1) := by decide +kernel
theorem dX1_takeMatter_16 : decode cX1_takeMatter 16 = .ok (.bipush 97, 2) := by decide +kernel
theorem dX1_takeMatter_18 : decode cX1_takeMatter 18 = .ok (.isub, 1) := by decide +kernel
theorem dX1_takeMatter_19 : decode cX1_takeMatter 19 = .ok (.putfield 22, 3) := by decide +kernel
theorem dX1_takeMatter_22 : decode cX1_takeMatter 22 = .ok (.aload_n 0, 1) := by decide +kernel
theorem dX1_takeMatter_23 : decode cX1_takeMatter 23 = .ok (.iconst 1, 1) := by decide +kernel
theorem dX1_takeMatter_24 : decode cX1_takeMatter 24 = .ok (.putfield 18, 3) := by decide +kernel
theorem dX1_takeMatter_27 : decode cX1_takeMatter 27 = .ok (.iconst 1, 1) := by decide +kernel
theorem dX1_takeMatter_28 : decode cX1_takeMatter 28 = .ok (.ireturn, 1) := by decide +kernel
set_option maxRecDepth 20000 in
theorem ggX1_takeTime_X10_isMatter : GoodIn wsX1_takeTime wsX10_isMatter := goodIn_r _ [7] (by decide +kernel) (by decide +kernel)
set_option maxRecDepth 20000 in
theorem gX1_takeTime_X10_isMatter_n66 : GoodIn wsX1_takeTime (wsX10_isMatter) := ggX1_takeTime_X10_isMatter
theorem dX1_takeTime_0 : decode cX1_takeTime 0 = .ok (.iload_n 1, 1) := by decide +kernel
theorem dX1_takeTime_1 : decode cX1_takeTime 1 = .ok (.bipush 108, 2) := by decide +kernel
theorem dX1_takeTime_3 : decode cX1_takeTime 3 = .ok (.if_icmp .eq 15, 3) := by decide +kernel
theorem dX1_takeTime_6 : decode cX1_takeTime 6 = .ok (.iload_n 1, 1) := by decide +kernel
theorem dX1_takeTime_7 : decode cX1_takeTime 7 = .ok (.bipush 99, 2) := by decide +kernel
theorem dX1_takeTime_9 : decode cX1_takeTime 9 = .ok (.if_icmp .eq 9, 3) := by decide +kernel
theorem dX1_takeTime_12 : decode cX1_takeTime 12 = .ok (.iload_n 1, 1) := by decide +kernel
theorem dX1_takeTime_13 : decode cX1_takeTime 13 = .ok (.bipush 122, 2) := by decide +kernel
theorem dX1_takeTime_15 : decode cX1_takeTime 15 = .ok (.if_icmp .ne 13, 3) := by decide +kernel
theorem dX1_takeTime_18 : decode cX1_takeTime 18 = .ok (.aload_n 0, 1) := by decide +kernel
theorem dX1_takeTime_19 : decode cX1_takeTime 19 = .ok (.getfield 22, 3) := by decide +kernel
theorem dX1_takeTime_22 : decode cX1_takeTime 22 = .ok (.invokestatic 66, 3) := by decide +kernel
theorem dX1_takeTime_25 : decode cX1_takeTime 25 = .ok (.ifCond .ne 5, 3) := by decide +kernel
theorem dX1_takeTime_28 : decode cX1_takeTime 28 = .ok (.iconst 0, 1) := by decide +kernel
theorem dX1_takeTime_29 : decode cX1_takeTime 29 = .ok (.ireturn, 1) := by decide +kernel
theorem dX1_takeTime_30 : decode cX1_takeTime 30 = .ok (.aload_n 0, 1) := by decide +kernel
theorem dX1_takeTime_31 : decode cX1_takeTime 31 = .ok (.getfield 9, 3) := by decide +kernel
theorem dX1_takeTime_34 : decode cX1_takeTime 34 = .ok (.aload_n 0, 1) := by decide +kernel
theorem dX1_takeTime_35 : decode cX1_takeTime 35 = .ok (.getfield 22, 3) := by decide +kernel
theorem dX1_takeTime_38 : decode cX1_takeTime 38 = .ok (.iload_n 1, 1) := by decide +kernel
theorem dX1_takeTime_39 : decode cX1_takeTime 39 = .ok (.iastore, 1) := by decide +kernel
theorem dX1_takeTime_40 : decode cX1_takeTime 40 = .ok (.aload_n 0, 1) := by decide +kernel
theorem dX1_takeTime_41 : decode cX1_takeTime 41 = .ok (.getfield 15, 3) := by decide +kernel
theorem dX1_takeTime_44 : decode cX1_takeTime 44 = .ok (.aload_n 0, 1) := by decide +kernel
theorem dX1_takeTime_45 : decode cX1_takeTime 45 = .ok (.getfield 22, 3) := by decide +kernel
theorem dX1_takeTime_48 : decode cX1_takeTime 48 = .ok (.iconst 0, 1) := by decide +kernel
theorem dX1_takeTime_49 : decode cX1_takeTime 49 = .ok (.iastore, 1) := by decide +kernel
theorem dX1_takeTime_50 : decode cX1_takeTime 50 = .ok (.aload_n 0, 1) := by decide +kernel
theorem dX1_takeTime_51 : decode cX1_takeTime 51 = .ok (.iconst 4, 1) := by decide +kernel
theorem dX1_takeTime_52 : decode cX1_takeTime 52 = .ok (.putfield 18, 3) := by decide +kernel
theorem dX1_takeTime_55 : decode cX1_takeTime 55 = .ok (.iconst 1, 1) := by decide +kernel
theorem dX1_takeTime_56 : decode cX1_takeTime 56 = .ok (.ireturn, 1) := by decide +kernel
theorem dX1_takeSense_0 : decode cX1_takeSense 0 = .ok (.iload_n 1, 1) := by decide +kernel
theorem dX1_takeSense_1 : decode cX1_takeSense 1 = .ok (.bipush 43, 2) := by decide +kernel
theorem dX1_takeSense_3 : decode cX1_takeSense 3 = .ok (.if_icmp .eq 11, 3) := by decide +kernel
theorem dX1_takeSense_6 : decode cX1_takeSense 6 = .ok (.iload_n 1, 1) := by decide +kernel
theorem dX1_takeSense_7 : decode cX1_takeSense 7 = .ok (.bipush 45, 2) := by decide +kernel
theorem dX1_takeSense_9 : decode cX1_takeSense 9 = .ok (.if_icmp .eq 5, 3) := by decide +kernel
theorem dX1_takeSense_12 : decode cX1_takeSense 12 = .ok (.iconst 0, 1) := by decide +kernel
theorem dX1_takeSense_13 : decode cX1_takeSense 13 = .ok (.ireturn, 1) := by decide +kernel
theorem dX1_takeSense_14 : decode cX1_takeSense 14 = .ok (.aload_n 0, 1) := by decide +kernel
theorem dX1_takeSense_15 : decode cX1_takeSense 15 = .ok (.iload_n 1, 1) := by decide +kernel
theorem dX1_takeSense_16 : decode cX1_takeSense 16 = .ok (.bipush 43, 2) := by decide +kernel
theorem dX1_takeSense_18 : decode cX1_takeSense 18 = .ok (.if_icmp .ne 7, 3) := by decide +kernel
theorem dX1_takeSense_21 : decode cX1_takeSense 21 = .ok (.iconst 1, 1) := by decide +kernel
theorem dX1_takeSense_22 : decode cX1_takeSense 22 = .ok (.goto 4, 3) := by decide +kernel
theorem dX1_takeSense_25 : decode cX1_takeSense 25 = .ok (.iconst (-1), 1) := by decide +kernel
theorem dX1_takeSense_26 : decode cX1_takeSense 26 = .ok (.putfield 25, 3) := by decide +kernel
theorem dX1_takeSense_29 : decode cX1_takeSense 29 = .ok (.aload_n 0, 1) := by decide +kernel
theorem dX1_takeSense_30 : decode cX1_takeSense 30 = .ok (.iconst 0, 1) := by decide +kernel
theorem dX1_takeSense_31 : decode cX1_takeSense 31 = .ok (.putfield 28, 3) := by decide +kernel
theorem dX1_takeSense_34 : decode cX1_takeSense 34 = .ok (.aload_n 0, 1) := by decide +kernel
theorem dX1_takeSense_35 : decode cX1_takeSense 35 = .ok (.iconst 3, 1) := by decide +kernel
theorem dX1_takeSense_36 : decode cX1_takeSense 36 = .ok (.putfield 18, 3) := by decide +kernel
theorem dX1_takeSense_39 : decode cX1_takeSense 39 = .ok (.iconst 1, 1) := by decide +kernel
theorem dX1_takeSense_40 : decode cX1_takeSense 40 = .ok (.ireturn, 1) := by decide +kernel
set_option maxRecDepth 20000 in
theorem ggX1_takeDigit_X10_isMatter : GoodIn wsX1_takeDigit wsX10_isMatter := goodIn_r _ [8] (by decide +kernel) (by decide +kernel)
set_option maxRecDepth 20000 in
theorem gX1_takeDigit_X10_isMatter_n66 : GoodIn wsX1_takeDigit (wsX10_isMatter) := ggX1_takeDigit_X10_isMatter
theorem dX1_takeDigit_0 : decode cX1_takeDigit 0 = .ok (.iload_n 1, 1) := by decide +kernel
theorem dX1_takeDigit_1 : decode cX1_takeDigit 1 = .ok (.bipush 48, 2) := by decide +kernel
theorem dX1_takeDigit_3 : decode cX1_takeDigit 3 = .ok (.if_icmp .lt 27, 3) := by decide +kernel
theorem dX1_takeDigit_6 : decode cX1_takeDigit 6 = .ok (.iload_n 1, 1) := by decide +kernel
theorem dX1_takeDigit_7 : decode cX1_takeDigit 7 = .ok (.bipush 57, 2) := by decide +kernel
theorem dX1_takeDigit_9 : decode cX1_takeDigit 9 = .ok (.if_icmp .gt 21, 3) := by decide +kernel
theorem dX1_takeDigit_12 : decode cX1_takeDigit 12 = .ok (.aload_n 0, 1) := by decide +kernel
theorem dX1_takeDigit_13 : decode cX1_takeDigit 13 = .ok (.getfield 28, 3) := by decide +kernel
theorem dX1_takeDigit_16 : decode cX1_takeDigit 16 = .ok (.iconst 3, 1) := by decide +kernel
theorem dX1_takeDigit_17 : decode cX1_takeDigit 17 = .ok (.if_icmp .ge 13, 3) := by decide +kernel
theorem dX1_takeDigit_20 : decode cX1_takeDigit 20 = .ok (.aload_n 0, 1) := by decide +kernel
theorem dX1_takeDigit_21 : decode cX1_takeDigit 21 = .ok (.getfield 22, 3) := by decide +kernel
theorem dX1_takeDigit_24 : decode cX1_takeDigit 24 = .ok (.invokestatic 66, 3) := by decide +kernel
theorem dX1_takeDigit_27 : decode cX1_takeDigit 27 = .ok (.ifCond .ne 5, 3) := by decide +kernel
theorem dX1_takeDigit_30 : decode cX1_takeDigit 30 = .ok (.iconst 0, 1) := by decide +kernel
theorem dX1_takeDigit_31 : decode cX1_takeDigit 31 = .ok (.ireturn, 1) := by decide +kernel
theorem dX1_takeDigit_32 : decode cX1_takeDigit 32 = .ok (.aload_n 0, 1) := by decide +kernel
theorem dX1_takeDigit_33 : decode cX1_takeDigit 33 = .ok (.getfield 15, 3) := by decide +kernel
theorem dX1_takeDigit_36 : decode cX1_takeDigit 36 = .ok (.aload_n 0, 1) := by decide +kernel
theorem dX1_takeDigit_37 : decode cX1_takeDigit 37 = .ok (.getfield 22, 3) := by decide +kernel
theorem dX1_takeDigit_40 : decode cX1_takeDigit 40 = .ok (.aload_n 0, 1) := by decide +kernel
theorem dX1_takeDigit_41 : decode cX1_takeDigit 41 = .ok (.getfield 15, 3) := by decide +kernel
theorem dX1_takeDigit_44 : decode cX1_takeDigit 44 = .ok (.aload_n 0, 1) := by decide +kernel
theorem dX1_takeDigit_45 : decode cX1_takeDigit 45 = .ok (.getfield 22, 3) := by decide +kernel
theorem dX1_takeDigit_48 : decode cX1_takeDigit 48 = .ok (.iaload, 1) := by decide +kernel
theorem dX1_takeDigit_49 : decode cX1_takeDigit 49 = .ok (.bipush 10, 2) := by decide +kernel
theorem dX1_takeDigit_51 : decode cX1_takeDigit 51 = .ok (.imul, 1) := by decide +kernel
theorem dX1_takeDigit_52 : decode cX1_takeDigit 52 = .ok (.aload_n 0, 1) := by decide +kernel
theorem dX1_takeDigit_53 : decode cX1_takeDigit 53 = .ok (.getfield 25, 3) := by decide +kernel
theorem dX1_takeDigit_56 : decode cX1_takeDigit 56 = .ok (.iload_n 1, 1) := by decide +kernel
theorem dX1_takeDigit_57 : decode cX1_takeDigit 57 = .ok (.bipush 48, 2) := by decide +kernel
theorem dX1_takeDigit_59 : decode cX1_takeDigit 59 = .ok (.isub, 1) := by decide +kernel
theorem dX1_takeDigit_60 : decode cX1_takeDigit 60 = .ok (.imul, 1) := by decide +kernel
theorem dX1_takeDigit_61 : decode cX1_takeDigit 61 = .ok (.iadd, 1) := by decide +kernel
theorem dX1_takeDigit_62 : decode cX1_takeDigit 62 = .ok (.iastore, 1) := by decide +kernel
theorem dX1_takeDigit_63 : decode cX1_takeDigit 63 = .ok (.aload_n 0, 1) := by decide +kernel
theorem dX1_takeDigit_64 : decode cX1_takeDigit 64 = .ok (.dup, 1) := by decide +kernel
theorem dX1_takeDigit_65 : decode cX1_takeDigit 65 = .ok (.getfield 28, 3) := by decide +kernel
theorem dX1_takeDigit_68 : decode cX1_takeDigit 68 = .ok (.iconst 1, 1) := by decide +kernel
theorem dX1_takeDigit_69 : decode cX1_takeDigit 69 = .ok (.iadd, 1) := by decide +kernel
theorem dX1_takeDigit_70 : decode cX1_takeDigit 70 = .ok (.putfield 28, 3) := by decide +kernel
theorem dX1_takeDigit_73 : decode cX1_takeDigit 73 = .ok (.aload_n 0, 1) := by decide +kernel
theorem dX1_takeDigit_74 : decode cX1_takeDigit 74 = .ok (.iconst 5, 1) := by decide +kernel
theorem dX1_takeDigit_75 : decode cX1_takeDigit 75 = .ok (.putfield 18, 3) := by decide +kernel
theorem dX1_takeDigit_78 : decode cX1_takeDigit 78 = .ok (.iconst 1, 1) := by decide +kernel
theorem dX1_takeDigit_79 : decode cX1_takeDigit 79 = .ok (.ireturn, 1) := by decide +kernel
theorem dX1_takeMark_0 : decode cX1_takeMark 0 = .ok (.iload_n 1, 1) := by decide +kernel
theorem dX1_takeMark_1 : decode cX1_takeMark 1 = .ok (.iload_n 2, 1) := by decide +kernel
theorem dX1_takeMark_2 : decode cX1_takeMark 2 = .ok (.if_icmp .eq 5, 3) := by decide +kernel
theorem dX1_takeMark_5 : decode cX1_takeMark 5 = .ok (.iconst 0, 1) := by decide +kernel
theorem dX1_takeMark_6 : decode cX1_takeMark 6 = .ok (.ireturn, 1) := by decide +kernel
theorem dX1_takeMark_7 : decode cX1_takeMark 7 = .ok (.aload_n 0, 1) := by decide +kernel
theorem dX1_takeMark_8 : decode cX1_takeMark 8 = .ok (.iload_n 3, 1) := by decide +kernel
theorem dX1_takeMark_9 : decode cX1_takeMark 9 = .ok (.putfield 18, 3) := by decide +kernel
theorem dX1_takeMark_12 : decode cX1_takeMark 12 = .ok (.iconst 1, 1) := by decide +kernel
theorem dX1_takeMark_13 : decode cX1_takeMark 13 = .ok (.ireturn, 1) := by decide +kernel
set_option maxRecDepth 20000 in
theorem ggX2_init_X6_init : GoodIn wsX2_init wsX6_init := goodIn_r _ [17, 18, 2, 3, 19, 20, 21, 22, 23, 12, 24, 25, 35, 36, 37] (by decide +kernel) (by decide +kernel)
set_option maxRecDepth 20000 in
theorem gX2_init_X6_init : GoodIn wsX2_init (wsX6_init) := ggX2_init_X6_init
set_option maxRecDepth 20000 in
theorem ggX2_init_X1_init : GoodIn wsX2_init wsX1_init := goodIn_r _ [27, 28, 2, 3, 12, 29, 30, 31, 32, 33, 34, 42, 43, 44, 45, 46, 47] (by decide +kernel) (by decide +kernel)
set_option maxRecDepth 20000 in
theorem gX2_init_X1_init_n22 : GoodIn wsX2_init (wsX1_init) := ggX2_init_X1_init
theorem dX2_init_0 : decode cX2_init 0 = .ok (.aload_n 0, 1) := by decide +kernel
theorem dX2_init_1 : decode cX2_init 1 = .ok (.invokespecial 3, 3) := by decide +kernel
theorem dX2_init_4 : decode cX2_init 4 = .ok (.aload_n 0, 1) := by decide +kernel
theorem dX2_init_5 : decode cX2_init 5 = .ok (.new 9, 3) := by decide +kernel
theorem dX2_init_8 : decode cX2_init 8 = .ok (.dup, 1) := by decide +kernel
theorem dX2_init_9 : decode cX2_init 9 = .ok (.bipush 20, 2) := by decide +kernel
theorem dX2_init_11 : decode cX2_init 11 = .ok (.invokespecial 11, 3) := by decide +kernel
theorem dX2_init_14 : decode cX2_init 14 = .ok (.putfield 14, 3) := by decide +kernel
theorem dX2_init_17 : decode cX2_init 17 = .ok (.aload_n 0, 1) := by decide +kernel
theorem dX2_init_18 : decode cX2_init 18 = .ok (.new 20, 3) := by decide +kernel
theorem dX2_init_21 : decode cX2_init 21 = .ok (.dup, 1) := by decide +kernel
theorem dX2_init_22 : decode cX2_init 22 = .ok (.invokespecial 22, 3) := by decide +kernel
theorem dX2_init_25 : decode cX2_init 25 = .ok (.putfield 23, 3) := by decide +kernel
theorem dX2_init_28 : decode cX2_init 28 = .ok (.aload_n 0, 1) := by decide +kernel
theorem dX2_init_29 : decode cX2_init 29 = .ok (.bipush 120, 2) := by decide +kernel
theorem dX2_init_31 : decode cX2_init 31 = .ok (.newarray .int, 2) := by decide +kernel
theorem dX2_init_33 : decode cX2_init 33 = .ok (.putfield 27, 3) := by decide +kernel
theorem dX2_init_36 : decode cX2_init 36 = .ok (.aload_n 0, 1) := by decide +kernel
theorem dX2_init_37 : decode cX2_init 37 = .ok (.bipush 120, 2) := by decide +kernel
theorem dX2_init_39 : decode cX2_init 39 = .ok (.newarray .int, 2) := by decide +kernel
theorem dX2_init_41 : decode cX2_init 41 = .ok (.putfield 31, 3) := by decide +kernel
theorem dX2_init_44 : decode cX2_init 44 = .ok (.return_, 1) := by decide +kernel
set_option maxRecDepth 20000 in
theorem ggX2_isFull_X6_isFull : GoodIn wsX2_isFull wsX6_isFull := goodIn_r _ [6, 7, 8, 13, 14, 15] (by decide +kernel) (by decide +kernel)
set_option maxRecDepth 20000 in
theorem gX2_isFull_X6_isFull : GoodIn wsX2_isFull (wsV RX2 34 RX6 yX6_isFull wsX6_isFull) := goodIn_app (goodIn_of _ (by decide +kernel)) ggX2_isFull_X6_isFull
theorem dX2_isFull_0 : decode cX2_isFull 0 = .ok (.aload_n 0, 1) := by decide +kernel
theorem dX2_isFull_1 : decode cX2_isFull 1 = .ok (.getfield 14, 3) := by decide +kernel
theorem dX2_isFull_4 : decode cX2_isFull 4 = .ok (.invokevirtual 34, 3) := by decide +kernel
theorem dX2_isFull_7 : decode cX2_isFull 7 = .ok (.ireturn, 1) := by decide +kernel
set_option maxRecDepth 20000 in
theorem ggX2_tell_X2_isFull : GoodIn wsX2_tell wsX2_isFull := goodIn_r _ [12, 2, 13, 14, 15, 16, 17, 18, 19, 75, 76, 77, 78, 79, 80, 81] (by decide +kernel) (by decide +kernel)
set_option maxRecDepth 20000 in
theorem gX2_tell_X2_isFull : GoodIn wsX2_tell (wsV RX2 38 RX2 yX2_isFull wsX2_isFull) := goodIn_app (goodIn_of _ (by decide +kernel)) ggX2_tell_X2_isFull
set_option maxRecDepth 20000 in
theorem ggX2_tell_X1_take : GoodIn wsX2_tell wsX1_take := goodIn_r _ [24, 25, 26, 27, 28, 29, 30, 31, 32, 33, 34, 35, 36, 37, 38, 39, 40, 41, 42, 23, 43, 44, 45, 46, 47, 48, 49, 50, 51, 52, 53, 54, 55, 56, 57, 58, 59, 60, 61, 62, 63, 64, 65, 66, 67, 68, 69, 82, 83, 84, 85, 86, 87, 88, 89] (by decide +kernel) (by decide +kernel)
set_option maxRecDepth 20000 in
theorem gX2_tell_X1_take : GoodIn wsX2_tell (wsV RX2 39 RX1 yX1_take wsX1_take) := goodIn_app (goodIn_of _ (by decide +kernel)) ggX2_tell_X1_take
set_option maxRecDepth 20000 in
theorem ggX2_tell_X6_add : GoodIn wsX2_tell wsX6_add := goodIn_r _ [73, 18, 19, 74, 79, 80, 81] (by decide +kernel) (by decide +kernel)
set_option maxRecDepth 20000 in
theorem gX2_tell_X6_add : GoodIn wsX2_tell (wsV RX2 49 RX6 yX6_add wsX6_add) := goodIn_app (goodIn_of _ (by decide +kernel)) ggX2_tell_X6_add
theorem dX2_tell_0 : decode cX2_tell 0 = .ok (.aload_n 0, 1) := by decide +kernel
theorem dX2_tell_1 : decode cX2_tell 1 = .ok (.invokevirtual 38, 3) := by decide +kernel
theorem dX2_tell_4 : decode cX2_tell 4 = .ok (.ifCond .eq 6, 3) := by decide +kernel
theorem dX2_tell_7 : decode cX2_tell 7 = .ok (.bipush (-100), 2) := by decide +kernel
theorem dX2_tell_9 : decode cX2_tell 9 = .ok (.ireturn, 1) := by decide +kernel
theorem dX2_tell_10 : decode cX2_tell 10 = .ok (.aload_n 0, 1) := by decide +kernel
theorem dX2_tell_11 : decode cX2_tell 11 = .ok (.getfield 23, 3) := by decide +kernel
theorem dX2_tell_14 : decode cX2_tell 14 = .ok (.aload_n 3, 1) := by decide +kernel
theorem dX2_tell_15 : decode cX2_tell 15 = .ok (.invokevirtual 39, 3) := by decide +kernel
theorem dX2_tell_18 : decode cX2_tell 18 = .ok (.istore 4, 2) := by decide +kernel
theorem dX2_tell_20 : decode cX2_tell 20 = .ok (.iload 4, 2) := by decide +kernel
theorem dX2_tell_22 : decode cX2_tell 22 = .ok (.iconst (-1), 1) := by decide +kernel
theorem dX2_tell_23 : decode cX2_tell 23 = .ok (.if_icmp .eq 8, 3) := by decide +kernel
theorem dX2_tell_26 : decode cX2_tell 26 = .ok (.iconst (-1), 1) := by decide +kernel
theorem dX2_tell_27 : decode cX2_tell 27 = .ok (.iload 4, 2) := by decide +kernel
theorem dX2_tell_29 : decode cX2_tell 29 = .ok (.isub, 1) := by decide +kernel
theorem dX2_tell_30 : decode cX2_tell 30 = .ok (.ireturn, 1) := by decide +kernel
theorem dX2_tell_31 : decode cX2_tell 31 = .ok (.aload_n 0, 1) := by decide +kernel
theorem dX2_tell_32 : decode cX2_tell 32 = .ok (.getfield 14, 3) := by decide +kernel
theorem dX2_tell_35 : decode cX2_tell 35 = .ok (.getfield 43, 3) := by decide +kernel
theorem dX2_tell_38 : decode cX2_tell 38 = .ok (.bipush 6, 2) := by decide +kernel
theorem dX2_tell_40 : decode cX2_tell 40 = .ok (.imul, 1) := by decide +kernel
theorem dX2_tell_41 : decode cX2_tell 41 = .ok (.istore 5, 2) := by decide +kernel
theorem dX2_tell_43 : decode cX2_tell 43 = .ok (.iconst 0, 1) := by decide +kernel
theorem dX2_tell_44 : decode cX2_tell 44 = .ok (.istore 6, 2) := by decide +kernel
theorem dX2_tell_46 : decode cX2_tell 46 = .ok (.iload 6, 2) := by decide +kernel
theorem dX2_tell_48 : decode cX2_tell 48 = .ok (.bipush 6, 2) := by decide +kernel
theorem dX2_tell_50 : decode cX2_tell 50 = .ok (.if_icmp .ge 49, 3) := by decide +kernel
theorem dX2_tell_53 : decode cX2_tell 53 = .ok (.aload_n 0, 1) := by decide +kernel
theorem dX2_tell_54 : decode cX2_tell 54 = .ok (.getfield 27, 3) := by decide +kernel
theorem dX2_tell_57 : decode cX2_tell 57 = .ok (.iload 5, 2) := by decide +kernel
theorem dX2_tell_59 : decode cX2_tell 59 = .ok (.iload 6, 2) := by decide +kernel
theorem dX2_tell_61 : decode cX2_tell 61 = .ok (.iadd, 1) := by decide +kernel
theorem dX2_tell_62 : decode cX2_tell 62 = .ok (.aload_n 0, 1) := by decide +kernel
theorem dX2_tell_63 : decode cX2_tell 63 = .ok (.getfield 23, 3) := by decide +kernel
theorem dX2_tell_66 : decode cX2_tell 66 = .ok (.getfield 47, 3) := by decide +kernel
theorem dX2_tell_69 : decode cX2_tell 69 = .ok (.iload 6, 2) := by decide +kernel
theorem dX2_tell_71 : decode cX2_tell 71 = .ok (.iaload, 1) := by decide +kernel
theorem dX2_tell_72 : decode cX2_tell 72 = .ok (.iastore, 1) := by decide +kernel
theorem dX2_tell_73 : decode cX2_tell 73 = .ok (.aload_n 0, 1) := by decide +kernel
theorem dX2_tell_74 : decode cX2_tell 74 = .ok (.getfield 31, 3) := by decide +kernel
theorem dX2_tell_77 : decode cX2_tell 77 = .ok (.iload 5, 2) := by decide +kernel
theorem dX2_tell_79 : decode cX2_tell 79 = .ok (.iload 6, 2) := by decide +kernel
theorem dX2_tell_81 : decode cX2_tell 81 = .ok (.iadd, 1) := by decide +kernel
theorem dX2_tell_82 : decode cX2_tell 82 = .ok (.aload_n 0, 1) := by decide +kernel
theorem dX2_tell_83 : decode cX2_tell 83 = .ok (.getfield 23, 3) := by decide +kernel
theorem dX2_tell_86 : decode cX2_tell 86 = .ok (.getfield 48, 3) := by decide +kernel
theorem dX2_tell_89 : decode cX2_tell 89 = .ok (.iload 6, 2) := by decide +kernel
theorem dX2_tell_91 : decode cX2_tell 91 = .ok (.iaload, 1) := by decide +kernel
theorem dX2_tell_92 : decode cX2_tell 92 = .ok (.iastore, 1) := by decide +kernel
theorem dX2_tell_93 : decode cX2_tell 93 = .ok (.iinc 6 1, 3) := by decide +kernel
theorem dX2_tell_96 : decode cX2_tell 96 = .ok (.goto (-50), 3) := by decide +kernel
theorem dX2_tell_99 : decode cX2_tell 99 = .ok (.aload_n 0, 1) := by decide +kernel
theorem dX2_tell_100 : decode cX2_tell 100 = .ok (.getfield 14, 3) := by decide +kernel
theorem dX2_tell_103 : decode cX2_tell 103 = .ok (.iload_n 1, 1) := by decide +kernel
theorem dX2_tell_104 : decode cX2_tell 104 = .ok (.iload_n 2, 1) := by decide +kernel
theorem dX2_tell_105 : decode cX2_tell 105 = .ok (.invokevirtual 49, 3) := by decide +kernel
theorem dX2_tell_108 : decode cX2_tell 108 = .ok (.aload_n 0, 1) := by decide +kernel
theorem dX2_tell_109 : decode cX2_tell 109 = .ok (.getfield 14, 3) := by decide +kernel
theorem dX2_tell_112 : decode cX2_tell 112 = .ok (.getfield 43, 3) := by decide +kernel
theorem dX2_tell_115 : decode cX2_tell 115 = .ok (.ireturn, 1) := by decide +kernel
set_option maxRecDepth 20000 in
theorem ggX2_has_X10_isMatter : GoodIn wsX2_has wsX10_isMatter := goodIn_r _ [5] (by decide +kernel) (by decide +kernel)
set_option maxRecDepth 20000 in
theorem gX2_has_X10_isMatter_n53 : GoodIn wsX2_has (wsX10_isMatter) := ggX2_has_X10_isMatter
theorem dX2_has_0 : decode cX2_has 0 = .ok (.iload_n 1, 1) := by decide +kernel
theorem dX2_has_1 : decode cX2_has 1 = .ok (.ifCond .lt 25, 3) := by decide +kernel
theorem dX2_has_4 : decode cX2_has 4 = .ok (.iload_n 1, 1) := by decide +kernel
theorem dX2_has_5 : decode cX2_has 5 = .ok (.aload_n 0, 1) := by decide +kernel
theorem dX2_has_6 : decode cX2_has 6 = .ok (.getfield 14, 3) := by decide +kernel
theorem dX2_has_9 : decode cX2_has 9 = .ok (.getfield 43, 3) := by decide +kernel
theorem dX2_has_12 : decode cX2_has 12 = .ok (.if_icmp .ge 14, 3) := by decide +kernel
theorem dX2_has_15 : decode cX2_has 15 = .ok (.iload_n 2, 1) := by decide +kernel
theorem dX2_has_16 : decode cX2_has 16 = .ok (.invokestatic 53, 3) := by decide +kernel
theorem dX2_has_19 : decode cX2_has 19 = .ok (.ifCond .eq 7, 3) := by decide +kernel
theorem dX2_has_22 : decode cX2_has 22 = .ok (.iconst 1, 1) := by decide +kernel
theorem dX2_has_23 : decode cX2_has 23 = .ok (.goto 4, 3) := by decide +kernel
theorem dX2_has_26 : decode cX2_has 26 = .ok (.iconst 0, 1) := by decide +kernel
theorem dX2_has_27 : decode cX2_has 27 = .ok (.ireturn, 1) := by decide +kernel
set_option maxRecDepth 20000 in
theorem ggX2_timeOf_X2_has : GoodIn wsX2_timeOf wsX2_has := goodIn_r _ [6, 7, 8, 9, 10, 11, 12, 13, 14, 15, 16, 17, 18] (by decide +kernel) (by decide +kernel)
set_option maxRecDepth 20000 in
theorem gX2_timeOf_X2_has : GoodIn wsX2_timeOf (wsV RX2 57 RX2 yX2_has wsX2_has) := goodIn_app (goodIn_of _ (by decide +kernel)) ggX2_timeOf_X2_has
theorem dX2_timeOf_0 : decode cX2_timeOf 0 = .ok (.aload_n 0, 1) := by decide +kernel
theorem dX2_timeOf_1 : decode cX2_timeOf 1 = .ok (.iload_n 1, 1) := by decide +kernel
theorem dX2_timeOf_2 : decode cX2_timeOf 2 = .ok (.iload_n 2, 1) := by decide +kernel
theorem dX2_timeOf_3 : decode cX2_timeOf 3 = .ok (.invokevirtual 57, 3) := by decide +kernel
theorem dX2_timeOf_6 : decode cX2_timeOf 6 = .ok (.ifCond .eq 17, 3) := by decide +kernel
theorem dX2_timeOf_9 : decode cX2_timeOf 9 = .ok (.aload_n 0, 1) := by decide +kernel
theorem dX2_timeOf_10 : decode cX2_timeOf 10 = .ok (.getfield 27, 3) := by decide +kernel
theorem dX2_timeOf_13 : decode cX2_timeOf 13 = .ok (.iload_n 1, 1) := by decide +kernel
theorem dX2_timeOf_14 : decode cX2_timeOf 14 = .ok (.bipush 6, 2) := by decide +kernel
theorem dX2_timeOf_16 : decode cX2_timeOf 16 = .ok (.imul, 1) := by decide +kernel
theorem dX2_timeOf_17 : decode cX2_timeOf 17 = .ok (.iload_n 2, 1) := by decide +kernel
theorem dX2_timeOf_18 : decode cX2_timeOf 18 = .ok (.iadd, 1) := by decide +kernel
theorem dX2_timeOf_19 : decode cX2_timeOf 19 = .ok (.iaload, 1) := by decide +kernel
theorem dX2_timeOf_20 : decode cX2_timeOf 20 = .ok (.goto 5, 3) := by decide +kernel
theorem dX2_timeOf_23 : decode cX2_timeOf 23 = .ok (.bipush 99, 2) := by decide +kernel
theorem dX2_timeOf_25 : decode cX2_timeOf 25 = .ok (.ireturn, 1) := by decide +kernel
set_option maxRecDepth 20000 in
theorem ggX2_moreOf_X2_has : GoodIn wsX2_moreOf wsX2_has := goodIn_r _ [6, 7, 8, 9, 10, 11, 12, 13, 14, 15, 16, 17, 18] (by decide +kernel) (by decide +kernel)
set_option maxRecDepth 20000 in
theorem gX2_moreOf_X2_has : GoodIn wsX2_moreOf (wsV RX2 57 RX2 yX2_has wsX2_has) := goodIn_app (goodIn_of _ (by decide +kernel)) ggX2_moreOf_X2_has
theorem dX2_moreOf_0 : decode cX2_moreOf 0 = .ok (.aload_n 0, 1) := by decide +kernel
theorem dX2_moreOf_1 : decode cX2_moreOf 1 = .ok (.iload_n 1, 1) := by decide +kernel
theorem dX2_moreOf_2 : decode cX2_moreOf 2 = .ok (.iload_n 2, 1) := by decide +kernel
theorem dX2_moreOf_3 : decode cX2_moreOf 3 = .ok (.invokevirtual 57, 3) := by decide +kernel
theorem dX2_moreOf_6 : decode cX2_moreOf 6 = .ok (.ifCond .eq 17, 3) := by decide +kernel
theorem dX2_moreOf_9 : decode cX2_moreOf 9 = .ok (.aload_n 0, 1) := by decide +kernel
theorem dX2_moreOf_10 : decode cX2_moreOf 10 = .ok (.getfield 31, 3) := by decide +kernel
theorem dX2_moreOf_13 : decode cX2_moreOf 13 = .ok (.iload_n 1, 1) := by decide +kernel
theorem dX2_moreOf_14 : decode cX2_moreOf 14 = .ok (.bipush 6, 2) := by decide +kernel
theorem dX2_moreOf_16 : decode cX2_moreOf 16 = .ok (.imul, 1) := by decide +kernel
theorem dX2_moreOf_17 : decode cX2_moreOf 17 = .ok (.iload_n 2, 1) := by decide +kernel
theorem dX2_moreOf_18 : decode cX2_moreOf 18 = .ok (.iadd, 1) := by decide +kernel
theorem dX2_moreOf_19 : decode cX2_moreOf 19 = .ok (.iaload, 1) := by decide +kernel
theorem dX2_moreOf_20 : decode cX2_moreOf 20 = .ok (.goto 4, 3) := by decide +kernel
theorem dX2_moreOf_23 : decode cX2_moreOf 23 = .ok (.iconst 0, 1) := by decide +kernel
theorem dX2_moreOf_24 : decode cX2_moreOf 24 = .ok (.ireturn, 1) := by decide +kernel
theorem dX3_init_0 : decode cX3_init 0 = .ok (.aload_n 0, 1) := by decide +kernel
theorem dX3_init_1 : decode cX3_init 1 = .ok (.invokespecial 3, 3) := by decide +kernel
theorem dX3_init_4 : decode cX3_init 4 = .ok (.aload_n 0, 1) := by decide +kernel
theorem dX3_init_5 : decode cX3_init 5 = .ok (.iconst 0, 1) := by decide +kernel
theorem dX3_init_6 : decode cX3_init 6 = .ok (.putfield 9, 3) := by decide +kernel
theorem dX3_init_9 : decode cX3_init 9 = .ok (.aload_n 0, 1) := by decide +kernel
theorem dX3_init_10 : decode cX3_init 10 = .ok (.bipush 6, 2) := by decide +kernel
theorem dX3_init_12 : decode cX3_init 12 = .ok (.newarray .int, 2) := by decide +kernel
theorem dX3_init_14 : decode cX3_init 14 = .ok (.putfield 15, 3) := by decide +kernel
theorem dX3_init_17 : decode cX3_init 17 = .ok (.aload_n 0, 1) := by decide +kernel
theorem dX3_init_18 : decode cX3_init 18 = .ok (.bipush 6, 2) := by decide +kernel
theorem dX3_init_20 : decode cX3_init 20 = .ok (.newarray .int, 2) := by decide +kernel
theorem dX3_init_22 : decode cX3_init 22 = .ok (.putfield 19, 3) := by decide +kernel
theorem dX3_init_25 : decode cX3_init 25 = .ok (.aload_n 0, 1) := by decide +kernel
theorem dX3_init_26 : decode cX3_init 26 = .ok (.iconst 0, 1) := by decide +kernel
theorem dX3_init_27 : decode cX3_init 27 = .ok (.putfield 22, 3) := by decide +kernel
theorem dX3_init_30 : decode cX3_init 30 = .ok (.aload_n 0, 1) := by decide +kernel
theorem dX3_init_31 : decode cX3_init 31 = .ok (.bipush 6, 2) := by decide +kernel
theorem dX3_init_33 : decode cX3_init 33 = .ok (.newarray .boolean, 2) := by decide +kernel
theorem dX3_init_35 : decode cX3_init 35 = .ok (.putfield 25, 3) := by decide +kernel
theorem dX3_init_38 : decode cX3_init 38 = .ok (.aload_n 0, 1) := by decide +kernel
theorem dX3_init_39 : decode cX3_init 39 = .ok (.bipush 6, 2) := by decide +kernel
theorem dX3_init_41 : decode cX3_init 41 = .ok (.newarray .int, 2) := by decide +kernel
theorem dX3_init_43 : decode cX3_init 43 = .ok (.putfield 29, 3) := by decide +kernel
theorem dX3_init_46 : decode cX3_init 46 = .ok (.aload_n 0, 1) := by decide +kernel
theorem dX3_init_47 : decode cX3_init 47 = .ok (.bipush 6, 2) := by decide +kernel
theorem dX3_init_49 : decode cX3_init 49 = .ok (.newarray .int, 2) := by decide +kernel
theorem dX3_init_51 : decode cX3_init 51 = .ok (.putfield 32, 3) := by decide +kernel
theorem dX3_init_54 : decode cX3_init 54 = .ok (.aload_n 0, 1) := by decide +kernel
theorem dX3_init_55 : decode cX3_init 55 = .ok (.bipush 6, 2) := by decide +kernel
theorem dX3_init_57 : decode cX3_init 57 = .ok (.newarray .int, 2) := by decide +kernel
theorem dX3_init_59 : decode cX3_init 59 = .ok (.putfield 35, 3) := by decide +kernel
theorem dX3_init_62 : decode cX3_init 62 = .ok (.return_, 1) := by decide +kernel
theorem dX3_hasStation_0 : decode cX3_hasStation 0 = .ok (.iload_n 1, 1) := by decide +kernel
theorem dX3_hasStation_1 : decode cX3_hasStation 1 = .ok (.ifCond .lt 15, 3) := by decide +kernel
theorem dX3_hasStation_4 : decode cX3_hasStation 4 = .ok (.iload_n 1, 1) := by decide +kernel
theorem dX3_hasStation_5 : decode cX3_hasStation 5 = .ok (.aload_n 0, 1) := by decide +kernel
theorem dX3_hasStation_6 : decode cX3_hasStation 6 = .ok (.getfield 9, 3) := by decide +kernel
theorem dX3_hasStation_9 : decode cX3_hasStation 9 = .ok (.if_icmp .ge 7, 3) := by decide +kernel
theorem dX3_hasStation_12 : decode cX3_hasStation 12 = .ok (.iconst 1, 1) := by decide +kernel
theorem dX3_hasStation_13 : decode cX3_hasStation 13 = .ok (.goto 4, 3) := by decide +kernel
theorem dX3_hasStation_16 : decode cX3_hasStation 16 = .ok (.iconst 0, 1) := by decide +kernel
theorem dX3_hasStation_17 : decode cX3_hasStation 17 = .ok (.ireturn, 1) := by decide +kernel
theorem dX3_hasTrain_0 : decode cX3_hasTrain 0 = .ok (.iload_n 1, 1) := by decide +kernel
theorem dX3_hasTrain_1 : decode cX3_hasTrain 1 = .ok (.ifCond .lt 15, 3) := by decide +kernel
theorem dX3_hasTrain_4 : decode cX3_hasTrain 4 = .ok (.iload_n 1, 1) := by decide +kernel
theorem dX3_hasTrain_5 : decode cX3_hasTrain 5 = .ok (.aload_n 0, 1) := by decide +kernel
theorem dX3_hasTrain_6 : decode cX3_hasTrain 6 = .ok (.getfield 22, 3) := by decide +kernel
theorem dX3_hasTrain_9 : decode cX3_hasTrain 9 = .ok (.if_icmp .ge 7, 3) := by decide +kernel
theorem dX3_hasTrain_12 : decode cX3_hasTrain 12 = .ok (.iconst 1, 1) := by decide +kernel
theorem dX3_hasTrain_13 : decode cX3_hasTrain 13 = .ok (.goto 4, 3) := by decide +kernel
theorem dX3_hasTrain_16 : decode cX3_hasTrain 16 = .ok (.iconst 0, 1) := by decide +kernel
theorem dX3_hasTrain_17 : decode cX3_hasTrain 17 = .ok (.ireturn, 1) := by decide +kernel
theorem dX3_build_0 : decode cX3_build 0 = .ok (.aload_n 0, 1) := by decide +kernel
theorem dX3_build_1 : decode cX3_build 1 = .ok (.getfield 9, 3) := by decide +kernel
theorem dX3_build_4 : decode cX3_build 4 = .ok (.bipush 6, 2) := by decide +kernel
theorem dX3_build_6 : decode cX3_build 6 = .ok (.if_icmp .ge 10, 3) := by decide +kernel
theorem dX3_build_9 : decode cX3_build 9 = .ok (.aload_n 0, 1) := by decide +kernel
theorem dX3_build_10 : decode cX3_build 10 = .ok (.getfield 22, 3) := by decide +kernel
theorem dX3_build_13 : decode cX3_build 13 = .ok (.ifCond .le 5, 3) := by decide +kernel
theorem dX3_build_16 : decode cX3_build 16 = .ok (.iconst (-1), 1) := by decide +kernel
theorem dX3_build_17 : decode cX3_build 17 = .ok (.ireturn, 1) := by decide +kernel
theorem dX3_build_18 : decode cX3_build 18 = .ok (.aload_n 0, 1) := by decide +kernel
theorem dX3_build_19 : decode cX3_build 19 = .ok (.getfield 9, 3) := by decide +kernel
theorem dX3_build_22 : decode cX3_build 22 = .ok (.ifCond .le 39, 3) := by decide +kernel
theorem dX3_build_25 : decode cX3_build 25 = .ok (.iload_n 2, 1) := by decide +kernel
theorem dX3_build_26 : decode cX3_build 26 = .ok (.iconst 1, 1) := by decide +kernel
theorem dX3_build_27 : decode cX3_build 27 = .ok (.if_icmp .lt 10, 3) := by decide +kernel
theorem dX3_build_30 : decode cX3_build 30 = .ok (.iload_n 2, 1) := by decide +kernel
theorem dX3_build_31 : decode cX3_build 31 = .ok (.sipush 600, 3) := by decide +kernel
theorem dX3_build_34 : decode cX3_build 34 = .ok (.if_icmp .le 5, 3) := by decide +kernel
theorem dX3_build_37 : decode cX3_build 37 = .ok (.iconst (-1), 1) := by decide +kernel
theorem dX3_build_38 : decode cX3_build 38 = .ok (.ireturn, 1) := by decide +kernel
theorem dX3_build_39 : decode cX3_build 39 = .ok (.aload_n 0, 1) := by decide +kernel
theorem dX3_build_40 : decode cX3_build 40 = .ok (.getfield 19, 3) := by decide +kernel
theorem dX3_build_43 : decode cX3_build 43 = .ok (.aload_n 0, 1) := by decide +kernel
theorem dX3_build_44 : decode cX3_build 44 = .ok (.getfield 9, 3) := by decide +kernel
theorem dX3_build_47 : decode cX3_build 47 = .ok (.aload_n 0, 1) := by decide +kernel
theorem dX3_build_48 : decode cX3_build 48 = .ok (.getfield 19, 3) := by decide +kernel
theorem dX3_build_51 : decode cX3_build 51 = .ok (.aload_n 0, 1) := by decide +kernel
theorem dX3_build_52 : decode cX3_build 52 = .ok (.getfield 9, 3) := by decide +kernel
theorem dX3_build_55 : decode cX3_build 55 = .ok (.iconst 1, 1) := by decide +kernel
theorem dX3_build_56 : decode cX3_build 56 = .ok (.isub, 1) := by decide +kernel
theorem dX3_build_57 : decode cX3_build 57 = .ok (.iaload, 1) := by decide +kernel
theorem dX3_build_58 : decode cX3_build 58 = .ok (.iload_n 2, 1) := by decide +kernel
theorem dX3_build_59 : decode cX3_build 59 = .ok (.iadd, 1) := by decide +kernel
theorem dX3_build_60 : decode cX3_build 60 = .ok (.iastore, 1) := by decide +kernel
theorem dX3_build_61 : decode cX3_build 61 = .ok (.aload_n 0, 1) := by decide +kernel
theorem dX3_build_62 : decode cX3_build 62 = .ok (.getfield 15, 3) := by decide +kernel
theorem dX3_build_65 : decode cX3_build 65 = .ok (.aload_n 0, 1) := by decide +kernel
theorem dX3_build_66 : decode cX3_build 66 = .ok (.getfield 9, 3) := by decide +kernel
theorem dX3_build_69 : decode cX3_build 69 = .ok (.iload_n 1, 1) := by decide +kernel
theorem dX3_build_70 : decode cX3_build 70 = .ok (.iastore, 1) := by decide +kernel
theorem dX3_build_71 : decode cX3_build 71 = .ok (.aload_n 0, 1) := by decide +kernel
theorem dX3_build_72 : decode cX3_build 72 = .ok (.dup, 1) := by decide +kernel
theorem dX3_build_73 : decode cX3_build 73 = .ok (.getfield 9, 3) := by decide +kernel
theorem dX3_build_76 : decode cX3_build 76 = .ok (.iconst 1, 1) := by decide +kernel
theorem dX3_build_77 : decode cX3_build 77 = .ok (.iadd, 1) := by decide +kernel
theorem dX3_build_78 : decode cX3_build 78 = .ok (.putfield 9, 3) := by decide +kernel
theorem dX3_build_81 : decode cX3_build 81 = .ok (.aload_n 0, 1) := by decide +kernel
theorem dX3_build_82 : decode cX3_build 82 = .ok (.getfield 9, 3) := by decide +kernel
theorem dX3_build_85 : decode cX3_build 85 = .ok (.iconst 1, 1) := by decide +kernel
theorem dX3_build_86 : decode cX3_build 86 = .ok (.isub, 1) := by decide +kernel
theorem dX3_build_87 : decode cX3_build 87 = .ok (.ireturn, 1) := by decide +kernel
theorem dX3_takesTrains_0 : decode cX3_takesTrains 0 = .ok (.aload_n 0, 1) := by decide +kernel
theorem dX3_takesTrains_1 : decode cX3_takesTrains 1 = .ok (.getfield 9, 3) := by decide +kernel
theorem dX3_takesTrains_4 : decode cX3_takesTrains 4 = .ok (.iconst 2, 1) := by decide +kernel
theorem dX3_takesTrains_5 : decode cX3_takesTrains 5 = .ok (.if_icmp .lt 16, 3) := by decide +kernel
theorem dX3_takesTrains_8 : decode cX3_takesTrains 8 = .ok (.aload_n 0, 1) := by decide +kernel
theorem dX3_takesTrains_9 : decode cX3_takesTrains 9 = .ok (.getfield 22, 3) := by decide +kernel
theorem dX3_takesTrains_12 : decode cX3_takesTrains 12 = .ok (.bipush 6, 2) := by decide +kernel
theorem dX3_takesTrains_14 : decode cX3_takesTrains 14 = .ok (.if_icmp .ge 7, 3) := by decide +kernel
theorem dX3_takesTrains_17 : decode cX3_takesTrains 17 = .ok (.iconst 1, 1) := by decide +kernel
theorem dX3_takesTrains_18 : decode cX3_takesTrains 18 = .ok (.goto 4, 3) := by decide +kernel
theorem dX3_takesTrains_21 : decode cX3_takesTrains 21 = .ok (.iconst 0, 1) := by decide +kernel
theorem dX3_takesTrains_22 : decode cX3_takesTrains 22 = .ok (.ireturn, 1) := by decide +kernel
set_option maxRecDepth 20000 in
theorem ggX3_firstTown_X3_hasStation : GoodIn wsX3_firstTown wsX3_hasStation := goodIn_r _ [7, 1, 8, 9, 10, 11, 12, 13, 14, 15] (by decide +kernel) (by decide +kernel)
set_option maxRecDepth 20000 in
theorem gX3_firstTown_X3_hasStation : GoodIn wsX3_firstTown (wsV RX3 38 RX3 yX3_hasStation wsX3_hasStation) := goodIn_app (goodIn_of _ (by decide +kernel)) ggX3_firstTown_X3_hasStation
theorem dX3_firstTown_0 : decode cX3_firstTown 0 = .ok (.iload_n 1, 1) := by decide +kernel
theorem dX3_firstTown_1 : decode cX3_firstTown 1 = .ok (.ifCond .eq 7, 3) := by decide +kernel
theorem dX3_firstTown_4 : decode cX3_firstTown 4 = .ok (.iconst 0, 1) := by decide +kernel
theorem dX3_firstTown_5 : decode cX3_firstTown 5 = .ok (.goto 9, 3) := by decide +kernel
theorem dX3_firstTown_8 : decode cX3_firstTown 8 = .ok (.aload_n 0, 1) := by decide +kernel
theorem dX3_firstTown_9 : decode cX3_firstTown 9 = .ok (.getfield 9, 3) := by decide +kernel
theorem dX3_firstTown_12 : decode cX3_firstTown 12 = .ok (.iconst 1, 1) := by decide +kernel
theorem dX3_firstTown_13 : decode cX3_firstTown 13 = .ok (.isub, 1) := by decide +kernel
theorem dX3_firstTown_14 : decode cX3_firstTown 14 = .ok (.istore_n 2, 1) := by decide +kernel
theorem dX3_firstTown_15 : decode cX3_firstTown 15 = .ok (.aload_n 0, 1) := by decide +kernel
theorem dX3_firstTown_16 : decode cX3_firstTown 16 = .ok (.iload_n 2, 1) := by decide +kernel
theorem dX3_firstTown_17 : decode cX3_firstTown 17 = .ok (.invokevirtual 38, 3) := by decide +kernel
theorem dX3_firstTown_20 : decode cX3_firstTown 20 = .ok (.ifCond .eq 12, 3) := by decide +kernel
theorem dX3_firstTown_23 : decode cX3_firstTown 23 = .ok (.aload_n 0, 1) := by decide +kernel
theorem dX3_firstTown_24 : decode cX3_firstTown 24 = .ok (.getfield 15, 3) := by decide +kernel
theorem dX3_firstTown_27 : decode cX3_firstTown 27 = .ok (.iload_n 2, 1) := by decide +kernel
theorem dX3_firstTown_28 : decode cX3_firstTown 28 = .ok (.iaload, 1) := by decide +kernel
theorem dX3_firstTown_29 : decode cX3_firstTown 29 = .ok (.goto 4, 3) := by decide +kernel
theorem dX3_firstTown_32 : decode cX3_firstTown 32 = .ok (.iconst (-1), 1) := by decide +kernel
theorem dX3_firstTown_33 : decode cX3_firstTown 33 = .ok (.ireturn, 1) := by decide +kernel
theorem dX3_addTrain_0 : decode cX3_addTrain 0 = .ok (.aload_n 0, 1) := by decide +kernel
theorem dX3_addTrain_1 : decode cX3_addTrain 1 = .ok (.getfield 22, 3) := by decide +kernel
theorem dX3_addTrain_4 : decode cX3_addTrain 4 = .ok (.bipush 6, 2) := by decide +kernel
theorem dX3_addTrain_6 : decode cX3_addTrain 6 = .ok (.if_icmp .lt 5, 3) := by decide +kernel
theorem dX3_addTrain_9 : decode cX3_addTrain 9 = .ok (.iconst (-1), 1) := by decide +kernel
theorem dX3_addTrain_10 : decode cX3_addTrain 10 = .ok (.ireturn, 1) := by decide +kernel
theorem dX3_addTrain_11 : decode cX3_addTrain 11 = .ok (.aload_n 0, 1) := by decide +kernel
theorem dX3_addTrain_12 : decode cX3_addTrain 12 = .ok (.getfield 25, 3) := by decide +kernel
theorem dX3_addTrain_15 : decode cX3_addTrain 15 = .ok (.aload_n 0, 1) := by decide +kernel
theorem dX3_addTrain_16 : decode cX3_addTrain 16 = .ok (.getfield 22, 3) := by decide +kernel
theorem dX3_addTrain_19 : decode cX3_addTrain 19 = .ok (.iload_n 1, 1) := by decide +kernel
theorem dX3_addTrain_20 : decode cX3_addTrain 20 = .ok (.bastore, 1) := by decide +kernel
theorem dX3_addTrain_21 : decode cX3_addTrain 21 = .ok (.aload_n 0, 1) := by decide +kernel
theorem dX3_addTrain_22 : decode cX3_addTrain 22 = .ok (.getfield 29, 3) := by decide +kernel
theorem dX3_addTrain_25 : decode cX3_addTrain 25 = .ok (.aload_n 0, 1) := by decide +kernel
theorem dX3_addTrain_26 : decode cX3_addTrain 26 = .ok (.getfield 22, 3) := by decide +kernel
theorem dX3_addTrain_29 : decode cX3_addTrain 29 = .ok (.iload_n 2, 1) := by decide +kernel
theorem dX3_addTrain_30 : decode cX3_addTrain 30 = .ok (.iastore, 1) := by decide +kernel
theorem dX3_addTrain_31 : decode cX3_addTrain 31 = .ok (.aload_n 0, 1) := by decide +kernel
theorem dX3_addTrain_32 : decode cX3_addTrain 32 = .ok (.getfield 32, 3) := by decide +kernel
theorem dX3_addTrain_35 : decode cX3_addTrain 35 = .ok (.aload_n 0, 1) := by decide +kernel
theorem dX3_addTrain_36 : decode cX3_addTrain 36 = .ok (.getfield 22, 3) := by decide +kernel
theorem dX3_addTrain_39 : decode cX3_addTrain 39 = .ok (.iload_n 3, 1) := by decide +kernel
theorem dX3_addTrain_40 : decode cX3_addTrain 40 = .ok (.iastore, 1) := by decide +kernel
theorem dX3_addTrain_41 : decode cX3_addTrain 41 = .ok (.aload_n 0, 1) := by decide +kernel
theorem dX3_addTrain_42 : decode cX3_addTrain 42 = .ok (.getfield 35, 3) := by decide +kernel
theorem dX3_addTrain_45 : decode cX3_addTrain 45 = .ok (.aload_n 0, 1) := by decide +kernel
theorem dX3_addTrain_46 : decode cX3_addTrain 46 = .ok (.getfield 22, 3) := by decide +kernel
theorem dX3_addTrain_49 : decode cX3_addTrain 49 = .ok (.iconst 0, 1) := by decide +kernel
theorem dX3_addTrain_50 : decode cX3_addTrain 50 = .ok (.iastore, 1) := by decide +kernel
theorem dX3_addTrain_51 : decode cX3_addTrain 51 = .ok (.aload_n 0, 1) := by decide +kernel
theorem dX3_addTrain_52 : decode cX3_addTrain 52 = .ok (.dup, 1) := by decide +kernel
theorem dX3_addTrain_53 : decode cX3_addTrain 53 = .ok (.getfield 22, 3) := by decide +kernel
theorem dX3_addTrain_56 : decode cX3_addTrain 56 = .ok (.iconst 1, 1) := by decide +kernel
theorem dX3_addTrain_57 : decode cX3_addTrain 57 = .ok (.iadd, 1) := by decide +kernel
theorem dX3_addTrain_58 : decode cX3_addTrain 58 = .ok (.putfield 22, 3) := by decide +kernel
theorem dX3_addTrain_61 : decode cX3_addTrain 61 = .ok (.aload_n 0, 1) := by decide +kernel
theorem dX3_addTrain_62 : decode cX3_addTrain 62 = .ok (.getfield 22, 3) := by decide +kernel
theorem dX3_addTrain_65 : decode cX3_addTrain 65 = .ok (.iconst 1, 1) := by decide +kernel
theorem dX3_addTrain_66 : decode cX3_addTrain 66 = .ok (.isub, 1) := by decide +kernel
theorem dX3_addTrain_67 : decode cX3_addTrain 67 = .ok (.ireturn, 1) := by decide +kernel
theorem dX3_clear_0 : decode cX3_clear 0 = .ok (.aload_n 0, 1) := by decide +kernel
theorem dX3_clear_1 : decode cX3_clear 1 = .ok (.getfield 22, 3) := by decide +kernel
theorem dX3_clear_4 : decode cX3_clear 4 = .ok (.istore_n 1, 1) := by decide +kernel
theorem dX3_clear_5 : decode cX3_clear 5 = .ok (.aload_n 0, 1) := by decide +kernel
theorem dX3_clear_6 : decode cX3_clear 6 = .ok (.iconst 0, 1) := by decide +kernel
theorem dX3_clear_7 : decode cX3_clear 7 = .ok (.putfield 22, 3) := by decide +kernel
theorem dX3_clear_10 : decode cX3_clear 10 = .ok (.aload_n 0, 1) := by decide +kernel
theorem dX3_clear_11 : decode cX3_clear 11 = .ok (.iconst 0, 1) := by decide +kernel
theorem dX3_clear_12 : decode cX3_clear 12 = .ok (.putfield 9, 3) := by decide +kernel
theorem dX3_clear_15 : decode cX3_clear 15 = .ok (.iload_n 1, 1) := by decide +kernel
theorem dX3_clear_16 : decode cX3_clear 16 = .ok (.ireturn, 1) := by decide +kernel
set_option maxRecDepth 20000 in
theorem ggX3_plannedAt_X3_hasTrain : GoodIn wsX3_plannedAt wsX3_hasTrain := goodIn_r _ [10, 11, 16, 17, 18, 19, 20, 21, 22, 23] (by decide +kernel) (by decide +kernel)
set_option maxRecDepth 20000 in
theorem gX3_plannedAt_X3_hasTrain : GoodIn wsX3_plannedAt (wsV RX3 42 RX3 yX3_hasTrain wsX3_hasTrain) := goodIn_app (goodIn_of _ (by decide +kernel)) ggX3_plannedAt_X3_hasTrain
set_option maxRecDepth 20000 in
theorem ggX3_plannedAt_X3_hasStation : GoodIn wsX3_plannedAt wsX3_hasStation := goodIn_r _ [15, 1, 16, 17, 18, 19, 20, 21, 22, 23] (by decide +kernel) (by decide +kernel)
set_option maxRecDepth 20000 in
theorem gX3_plannedAt_X3_hasStation : GoodIn wsX3_plannedAt (wsV RX3 38 RX3 yX3_hasStation wsX3_hasStation) := goodIn_app (goodIn_of _ (by decide +kernel)) ggX3_plannedAt_X3_hasStation
theorem dX3_plannedAt_0 : decode cX3_plannedAt 0 = .ok (.aload_n 0, 1) := by decide +kernel
theorem dX3_plannedAt_1 : decode cX3_plannedAt 1 = .ok (.iload_n 1, 1) := by decide +kernel
theorem dX3_plannedAt_2 : decode cX3_plannedAt 2 = .ok (.invokevirtual 42, 3) := by decide +kernel
theorem dX3_plannedAt_5 : decode cX3_plannedAt 5 = .ok (.ifCond .eq 11, 3) := by decide +kernel
theorem dX3_plannedAt_8 : decode cX3_plannedAt 8 = .ok (.aload_n 0, 1) := by decide +kernel
theorem dX3_plannedAt_9 : decode cX3_plannedAt 9 = .ok (.iload_n 2, 1) := by decide +kernel
theorem dX3_plannedAt_10 : decode cX3_plannedAt 10 = .ok (.invokevirtual 38, 3) := by decide +kernel
theorem dX3_plannedAt_13 : decode cX3_plannedAt 13 = .ok (.ifCond .ne 5, 3) := by decide +kernel
theorem dX3_plannedAt_16 : decode cX3_plannedAt 16 = .ok (.iconst (-1), 1) := by decide +kernel
theorem dX3_plannedAt_17 : decode cX3_plannedAt 17 = .ok (.ireturn, 1) := by decide +kernel
theorem dX3_plannedAt_18 : decode cX3_plannedAt 18 = .ok (.aload_n 0, 1) := by decide +kernel
theorem dX3_plannedAt_19 : decode cX3_plannedAt 19 = .ok (.getfield 9, 3) := by decide +kernel
theorem dX3_plannedAt_22 : decode cX3_plannedAt 22 = .ok (.iconst 1, 1) := by decide +kernel
theorem dX3_plannedAt_23 : decode cX3_plannedAt 23 = .ok (.isub, 1) := by decide +kernel
theorem dX3_plannedAt_24 : decode cX3_plannedAt 24 = .ok (.istore_n 3, 1) := by decide +kernel
theorem dX3_plannedAt_25 : decode cX3_plannedAt 25 = .ok (.aload_n 0, 1) := by decide +kernel
theorem dX3_plannedAt_26 : decode cX3_plannedAt 26 = .ok (.getfield 25, 3) := by decide +kernel
theorem dX3_plannedAt_29 : decode cX3_plannedAt 29 = .ok (.iload_n 1, 1) := by decide +kernel
theorem dX3_plannedAt_30 : decode cX3_plannedAt 30 = .ok (.baload, 1) := by decide +kernel
theorem dX3_plannedAt_31 : decode cX3_plannedAt 31 = .ok (.ifCond .eq 7, 3) := by decide +kernel
theorem dX3_plannedAt_34 : decode cX3_plannedAt 34 = .ok (.iload_n 2, 1) := by decide +kernel
theorem dX3_plannedAt_35 : decode cX3_plannedAt 35 = .ok (.goto 6, 3) := by decide +kernel
theorem dX3_plannedAt_38 : decode cX3_plannedAt 38 = .ok (.iload_n 3, 1) := by decide +kernel
theorem dX3_plannedAt_39 : decode cX3_plannedAt 39 = .ok (.iload_n 2, 1) := by decide +kernel
theorem dX3_plannedAt_40 : decode cX3_plannedAt 40 = .ok (.isub, 1) := by decide +kernel
theorem dX3_plannedAt_41 : decode cX3_plannedAt 41 = .ok (.istore 4, 2) := by decide +kernel
theorem dX3_plannedAt_43 : decode cX3_plannedAt 43 = .ok (.aload_n 0, 1) := by decide +kernel
theorem dX3_plannedAt_44 : decode cX3_plannedAt 44 = .ok (.getfield 25, 3) := by decide +kernel
theorem dX3_plannedAt_47 : decode cX3_plannedAt 47 = .ok (.iload_n 1, 1) := by decide +kernel
theorem dX3_plannedAt_48 : decode cX3_plannedAt 48 = .ok (.baload, 1) := by decide +kernel
theorem dX3_plannedAt_49 : decode cX3_plannedAt 49 = .ok (.ifCond .eq 12, 3) := by decide +kernel
theorem dX3_plannedAt_52 : decode cX3_plannedAt 52 = .ok (.aload_n 0, 1) := by decide +kernel
theorem dX3_plannedAt_53 : decode cX3_plannedAt 53 = .ok (.getfield 19, 3) := by decide +kernel
theorem dX3_plannedAt_56 : decode cX3_plannedAt 56 = .ok (.iload_n 2, 1) := by decide +kernel
theorem dX3_plannedAt_57 : decode cX3_plannedAt 57 = .ok (.iaload, 1) := by decide +kernel
theorem dX3_plannedAt_58 : decode cX3_plannedAt 58 = .ok (.goto 16, 3) := by decide +kernel
theorem dX3_plannedAt_61 : decode cX3_plannedAt 61 = .ok (.aload_n 0, 1) := by decide +kernel
theorem dX3_plannedAt_62 : decode cX3_plannedAt 62 = .ok (.getfield 19, 3) := by decide +kernel
theorem dX3_plannedAt_65 : decode cX3_plannedAt 65 = .ok (.iload_n 3, 1) := by decide +kernel
theorem dX3_plannedAt_66 : decode cX3_plannedAt 66 = .ok (.iaload, 1) := by decide +kernel
theorem dX3_plannedAt_67 : decode cX3_plannedAt 67 = .ok (.aload_n 0, 1) := by decide +kernel
theorem dX3_plannedAt_68 : decode cX3_plannedAt 68 = .ok (.getfield 19, 3) := by decide +kernel
theorem dX3_plannedAt_71 : decode cX3_plannedAt 71 = .ok (.iload_n 2, 1) := by decide +kernel
theorem dX3_plannedAt_72 : decode cX3_plannedAt 72 = .ok (.iaload, 1) := by decide +kernel
theorem dX3_plannedAt_73 : decode cX3_plannedAt 73 = .ok (.isub, 1) := by decide +kernel
theorem dX3_plannedAt_74 : decode cX3_plannedAt 74 = .ok (.istore 5, 2) := by decide +kernel
theorem dX3_plannedAt_76 : decode cX3_plannedAt 76 = .ok (.iload 4, 2) := by decide +kernel
theorem dX3_plannedAt_78 : decode cX3_plannedAt 78 = .ok (.iload_n 3, 1) := by decide +kernel
theorem dX3_plannedAt_79 : decode cX3_plannedAt 79 = .ok (.if_icmp .ne 10, 3) := by decide +kernel
theorem dX3_plannedAt_82 : decode cX3_plannedAt 82 = .ok (.iload 4, 2) := by decide +kernel
theorem dX3_plannedAt_84 : decode cX3_plannedAt 84 = .ok (.iconst 1, 1) := by decide +kernel
theorem dX3_plannedAt_85 : decode cX3_plannedAt 85 = .ok (.isub, 1) := by decide +kernel
theorem dX3_plannedAt_86 : decode cX3_plannedAt 86 = .ok (.goto 5, 3) := by decide +kernel
theorem dX3_plannedAt_89 : decode cX3_plannedAt 89 = .ok (.iload 4, 2) := by decide +kernel
theorem dX3_plannedAt_91 : decode cX3_plannedAt 91 = .ok (.istore 6, 2) := by decide +kernel
theorem dX3_plannedAt_93 : decode cX3_plannedAt 93 = .ok (.aload_n 0, 1) := by decide +kernel
theorem dX3_plannedAt_94 : decode cX3_plannedAt 94 = .ok (.getfield 29, 3) := by decide +kernel
theorem dX3_plannedAt_97 : decode cX3_plannedAt 97 = .ok (.iload_n 1, 1) := by decide +kernel
theorem dX3_plannedAt_98 : decode cX3_plannedAt 98 = .ok (.iaload, 1) := by decide +kernel
theorem dX3_plannedAt_99 : decode cX3_plannedAt 99 = .ok (.iload 5, 2) := by decide +kernel
theorem dX3_plannedAt_101 : decode cX3_plannedAt 101 = .ok (.iadd, 1) := by decide +kernel
theorem dX3_plannedAt_102 : decode cX3_plannedAt 102 = .ok (.aload_n 0, 1) := by decide +kernel
theorem dX3_plannedAt_103 : decode cX3_plannedAt 103 = .ok (.getfield 32, 3) := by decide +kernel
theorem dX3_plannedAt_106 : decode cX3_plannedAt 106 = .ok (.iload_n 1, 1) := by decide +kernel
theorem dX3_plannedAt_107 : decode cX3_plannedAt 107 = .ok (.iaload, 1) := by decide +kernel
theorem dX3_plannedAt_108 : decode cX3_plannedAt 108 = .ok (.iload 6, 2) := by decide +kernel
theorem dX3_plannedAt_110 : decode cX3_plannedAt 110 = .ok (.imul, 1) := by decide +kernel
theorem dX3_plannedAt_111 : decode cX3_plannedAt 111 = .ok (.iadd, 1) := by decide +kernel
theorem dX3_plannedAt_112 : decode cX3_plannedAt 112 = .ok (.ireturn, 1) := by decide +kernel
set_option maxRecDepth 20000 in
theorem ggX3_plannedOnRun_X3_hasTrain : GoodIn wsX3_plannedOnRun wsX3_hasTrain := goodIn_r _ [6, 7, 20, 21, 22, 23, 24, 25, 26, 27] (by decide +kernel) (by decide +kernel)
set_option maxRecDepth 20000 in
theorem gX3_plannedOnRun_X3_hasTrain : GoodIn wsX3_plannedOnRun (wsV RX3 42 RX3 yX3_hasTrain wsX3_hasTrain) := goodIn_app (goodIn_of _ (by decide +kernel)) ggX3_plannedOnRun_X3_hasTrain
set_option maxRecDepth 20000 in
theorem ggX3_plannedOnRun_X3_plannedAt : GoodIn wsX3_plannedOnRun wsX3_plannedAt := goodIn_r _ [11, 12, 1, 13, 14, 15, 2, 3, 4, 5, 6, 7, 16, 17, 18, 19, 20, 21, 22, 23, 24, 25, 26, 27] (by decide +kernel) (by decide +kernel)
set_option maxRecDepth 20000 in
theorem gX3_plannedOnRun_X3_plannedAt : GoodIn wsX3_plannedOnRun (wsV RX3 45 RX3 yX3_plannedAt wsX3_plannedAt) := goodIn_app (goodIn_of _ (by decide +kernel)) ggX3_plannedOnRun_X3_plannedAt
theorem dX3_plannedOnRun_0 : decode cX3_plannedOnRun 0 = .ok (.aload_n 0, 1) := by decide +kernel
theorem dX3_plannedOnRun_1 : decode cX3_plannedOnRun 1 = .ok (.iload_n 1, 1) := by decide +kernel
theorem dX3_plannedOnRun_2 : decode cX3_plannedOnRun 2 = .ok (.aload_n 0, 1) := by decide +kernel
theorem dX3_plannedOnRun_3 : decode cX3_plannedOnRun 3 = .ok (.iload_n 1, 1) := by decide +kernel
theorem dX3_plannedOnRun_4 : decode cX3_plannedOnRun 4 = .ok (.invokevirtual 42, 3) := by decide +kernel
theorem dX3_plannedOnRun_7 : decode cX3_plannedOnRun 7 = .ok (.ifCond .eq 16, 3) := by decide +kernel
theorem dX3_plannedOnRun_10 : decode cX3_plannedOnRun 10 = .ok (.aload_n 0, 1) := by decide +kernel
theorem dX3_plannedOnRun_11 : decode cX3_plannedOnRun 11 = .ok (.getfield 25, 3) := by decide +kernel
theorem dX3_plannedOnRun_14 : decode cX3_plannedOnRun 14 = .ok (.iload_n 1, 1) := by decide +kernel
theorem dX3_plannedOnRun_15 : decode cX3_plannedOnRun 15 = .ok (.baload, 1) := by decide +kernel
theorem dX3_plannedOnRun_16 : decode cX3_plannedOnRun 16 = .ok (.ifCond .eq 7, 3) := by decide +kernel
theorem dX3_plannedOnRun_19 : decode cX3_plannedOnRun 19 = .ok (.iload_n 2, 1) := by decide +kernel
theorem dX3_plannedOnRun_20 : decode cX3_plannedOnRun 20 = .ok (.goto 6, 3) := by decide +kernel
theorem dX3_plannedOnRun_23 : decode cX3_plannedOnRun 23 = .ok (.iload_n 2, 1) := by decide +kernel
theorem dX3_plannedOnRun_24 : decode cX3_plannedOnRun 24 = .ok (.iconst 1, 1) := by decide +kernel
theorem dX3_plannedOnRun_25 : decode cX3_plannedOnRun 25 = .ok (.iadd, 1) := by decide +kernel
theorem dX3_plannedOnRun_26 : decode cX3_plannedOnRun 26 = .ok (.invokevirtual 45, 3) := by decide +kernel
theorem dX3_plannedOnRun_29 : decode cX3_plannedOnRun 29 = .ok (.ireturn, 1) := by decide +kernel
set_option maxRecDepth 20000 in
theorem ggX3_lengthOf_X3_hasStation : GoodIn wsX3_lengthOf wsX3_hasStation := goodIn_r _ [6, 7, 8, 9, 10, 11, 12, 13, 14, 15] (by decide +kernel) (by decide +kernel)
set_option maxRecDepth 20000 in
theorem gX3_lengthOf_X3_hasStation : GoodIn wsX3_lengthOf (wsV RX3 38 RX3 yX3_hasStation wsX3_hasStation) := goodIn_app (goodIn_of _ (by decide +kernel)) ggX3_lengthOf_X3_hasStation
theorem dX3_lengthOf_0 : decode cX3_lengthOf 0 = .ok (.aload_n 0, 1) := by decide +kernel
theorem dX3_lengthOf_1 : decode cX3_lengthOf 1 = .ok (.iload_n 1, 1) := by decide +kernel
theorem dX3_lengthOf_2 : decode cX3_lengthOf 2 = .ok (.invokevirtual 38, 3) := by decide +kernel
theorem dX3_lengthOf_5 : decode cX3_lengthOf 5 = .ok (.ifCond .eq 31, 3) := by decide +kernel
theorem dX3_lengthOf_8 : decode cX3_lengthOf 8 = .ok (.aload_n 0, 1) := by decide +kernel
theorem dX3_lengthOf_9 : decode cX3_lengthOf 9 = .ok (.iload_n 1, 1) := by decide +kernel
theorem dX3_lengthOf_10 : decode cX3_lengthOf 10 = .ok (.iconst 1, 1) := by decide +kernel
theorem dX3_lengthOf_11 : decode cX3_lengthOf 11 = .ok (.iadd, 1) := by decide +kernel
theorem dX3_lengthOf_12 : decode cX3_lengthOf 12 = .ok (.invokevirtual 38, 3) := by decide +kernel
theorem dX3_lengthOf_15 : decode cX3_lengthOf 15 = .ok (.ifCond .eq 21, 3) := by decide +kernel
theorem dX3_lengthOf_18 : decode cX3_lengthOf 18 = .ok (.aload_n 0, 1) := by decide +kernel
theorem dX3_lengthOf_19 : decode cX3_lengthOf 19 = .ok (.getfield 19, 3) := by decide +kernel
theorem dX3_lengthOf_22 : decode cX3_lengthOf 22 = .ok (.iload_n 1, 1) := by decide +kernel
theorem dX3_lengthOf_23 : decode cX3_lengthOf 23 = .ok (.iconst 1, 1) := by decide +kernel
theorem dX3_lengthOf_24 : decode cX3_lengthOf 24 = .ok (.iadd, 1) := by decide +kernel
theorem dX3_lengthOf_25 : decode cX3_lengthOf 25 = .ok (.iaload, 1) := by decide +kernel
theorem dX3_lengthOf_26 : decode cX3_lengthOf 26 = .ok (.aload_n 0, 1) := by decide +kernel
theorem dX3_lengthOf_27 : decode cX3_lengthOf 27 = .ok (.getfield 19, 3) := by decide +kernel
theorem dX3_lengthOf_30 : decode cX3_lengthOf 30 = .ok (.iload_n 1, 1) := by decide +kernel
theorem dX3_lengthOf_31 : decode cX3_lengthOf 31 = .ok (.iaload, 1) := by decide +kernel
theorem dX3_lengthOf_32 : decode cX3_lengthOf 32 = .ok (.isub, 1) := by decide +kernel
theorem dX3_lengthOf_33 : decode cX3_lengthOf 33 = .ok (.goto 4, 3) := by decide +kernel
theorem dX3_lengthOf_36 : decode cX3_lengthOf 36 = .ok (.iconst 0, 1) := by decide +kernel
theorem dX3_lengthOf_37 : decode cX3_lengthOf 37 = .ok (.ireturn, 1) := by decide +kernel
set_option maxRecDepth 20000 in
theorem ggX3_firstRunMeeting_X3_hasTrain : GoodIn wsX3_firstRunMeeting wsX3_hasTrain := goodIn_r _ [6, 7, 37, 38, 39, 40, 41, 42, 43, 44] (by decide +kernel) (by decide +kernel)
set_option maxRecDepth 20000 in
theorem gX3_firstRunMeeting_X3_hasTrain : GoodIn wsX3_firstRunMeeting (wsV RX3 42 RX3 yX3_hasTrain wsX3_hasTrain) := goodIn_app (goodIn_of _ (by decide +kernel)) ggX3_firstRunMeeting_X3_hasTrain
set_option maxRecDepth 20000 in
theorem ggX3_firstRunMeeting_X3_firstRunMeetingWith : GoodIn wsX3_firstRunMeeting wsX3_firstRunMeetingWith := goodIn_r _ [11, 12, 13, 14, 15, 16, 17, 18, 19, 5, 20, 21, 2, 3, 4, 6, 7, 22, 23, 24, 25, 26, 27, 28, 29, 30, 31, 32, 33, 34, 35, 36, 37, 38, 39, 40, 41, 42, 43, 44] (by decide +kernel) (by decide +kernel)
set_option maxRecDepth 20000 in
theorem gX3_firstRunMeeting_X3_firstRunMeetingWith : GoodIn wsX3_firstRunMeeting (wsV RX3 49 RX3 yX3_firstRunMeetingWith wsX3_firstRunMeetingWith) := goodIn_app (goodIn_of _ (by decide +kernel)) ggX3_firstRunMeeting_X3_firstRunMeetingWith
theorem dX3_firstRunMeeting_0 : decode cX3_firstRunMeeting 0 = .ok (.aload_n 0, 1) := by decide +kernel
theorem dX3_firstRunMeeting_1 : decode cX3_firstRunMeeting 1 = .ok (.iload_n 1, 1) := by decide +kernel
theorem dX3_firstRunMeeting_2 : decode cX3_firstRunMeeting 2 = .ok (.invokevirtual 42, 3) := by decide +kernel
theorem dX3_firstRunMeeting_5 : decode cX3_firstRunMeeting 5 = .ok (.ifCond .eq 11, 3) := by decide +kernel
theorem dX3_firstRunMeeting_8 : decode cX3_firstRunMeeting 8 = .ok (.aload_n 0, 1) := by decide +kernel
theorem dX3_firstRunMeeting_9 : decode cX3_firstRunMeeting 9 = .ok (.iload_n 2, 1) := by decide +kernel
theorem dX3_firstRunMeeting_10 : decode cX3_firstRunMeeting 10 = .ok (.invokevirtual 42, 3) := by decide +kernel
theorem dX3_firstRunMeeting_13 : decode cX3_firstRunMeeting 13 = .ok (.ifCond .ne 5, 3) := by decide +kernel
theorem dX3_firstRunMeeting_16 : decode cX3_firstRunMeeting 16 = .ok (.iconst (-1), 1) := by decide +kernel
theorem dX3_firstRunMeeting_17 : decode cX3_firstRunMeeting 17 = .ok (.ireturn, 1) := by decide +kernel
theorem dX3_firstRunMeeting_18 : decode cX3_firstRunMeeting 18 = .ok (.aload_n 0, 1) := by decide +kernel
theorem dX3_firstRunMeeting_19 : decode cX3_firstRunMeeting 19 = .ok (.iload_n 1, 1) := by decide +kernel
theorem dX3_firstRunMeeting_20 : decode cX3_firstRunMeeting 20 = .ok (.iload_n 2, 1) := by decide +kernel
theorem dX3_firstRunMeeting_21 : decode cX3_firstRunMeeting 21 = .ok (.aload_n 0, 1) := by decide +kernel
theorem dX3_firstRunMeeting_22 : decode cX3_firstRunMeeting 22 = .ok (.getfield 35, 3) := by decide +kernel
theorem dX3_firstRunMeeting_25 : decode cX3_firstRunMeeting 25 = .ok (.iload_n 2, 1) := by decide +kernel
theorem dX3_firstRunMeeting_26 : decode cX3_firstRunMeeting 26 = .ok (.iaload, 1) := by decide +kernel
theorem dX3_firstRunMeeting_27 : decode cX3_firstRunMeeting 27 = .ok (.aload_n 0, 1) := by decide +kernel
theorem dX3_firstRunMeeting_28 : decode cX3_firstRunMeeting 28 = .ok (.getfield 35, 3) := by decide +kernel
theorem dX3_firstRunMeeting_31 : decode cX3_firstRunMeeting 31 = .ok (.iload_n 1, 1) := by decide +kernel
theorem dX3_firstRunMeeting_32 : decode cX3_firstRunMeeting 32 = .ok (.iaload, 1) := by decide +kernel
theorem dX3_firstRunMeeting_33 : decode cX3_firstRunMeeting 33 = .ok (.isub, 1) := by decide +kernel
theorem dX3_firstRunMeeting_34 : decode cX3_firstRunMeeting 34 = .ok (.invokevirtual 49, 3) := by decide +kernel
theorem dX3_firstRunMeeting_37 : decode cX3_firstRunMeeting 37 = .ok (.ireturn, 1) := by decide +kernel
set_option maxRecDepth 20000 in
theorem ggX3_firstRunMeetingWith_X3_plannedOnRun : GoodIn wsX3_firstRunMeetingWith wsX3_plannedOnRun := goodIn_r _ [10, 11, 12, 13, 14, 9, 15, 16, 17, 18, 19, 20, 1, 21, 22, 23, 24, 25, 26, 27, 32, 33, 34, 35, 36, 37, 38, 39] (by decide +kernel) (by decide +kernel)
set_option maxRecDepth 20000 in
theorem gX3_firstRunMeetingWith_X3_plannedOnRun : GoodIn wsX3_firstRunMeetingWith (wsV RX3 53 RX3 yX3_plannedOnRun wsX3_plannedOnRun) := goodIn_app (goodIn_of _ (by decide +kernel)) ggX3_firstRunMeetingWith_X3_plannedOnRun
set_option maxRecDepth 20000 in
theorem ggX3_firstRunMeetingWith_X3_lengthOf : GoodIn wsX3_firstRunMeetingWith wsX3_lengthOf := goodIn_r _ [31, 21, 24, 25, 26, 9, 27, 1, 32, 33, 34, 35, 36, 37, 38, 39] (by decide +kernel) (by decide +kernel)
set_option maxRecDepth 20000 in
theorem gX3_firstRunMeetingWith_X3_lengthOf : GoodIn wsX3_firstRunMeetingWith (wsV RX3 62 RX3 yX3_lengthOf wsX3_lengthOf) := goodIn_app (goodIn_of _ (by decide +kernel)) ggX3_firstRunMeetingWith_X3_lengthOf
theorem dX3_firstRunMeetingWith_0 : decode cX3_firstRunMeetingWith 0 = .ok (.iconst 0, 1) := by decide +kernel
theorem dX3_firstRunMeetingWith_1 : decode cX3_firstRunMeetingWith 1 = .ok (.istore 4, 2) := by decide +kernel
theorem dX3_firstRunMeetingWith_3 : decode cX3_firstRunMeetingWith 3 = .ok (.iload 4, 2) := by decide +kernel
theorem dX3_firstRunMeetingWith_5 : decode cX3_firstRunMeetingWith 5 = .ok (.aload_n 0, 1) := by decide +kernel
theorem dX3_firstRunMeetingWith_6 : decode cX3_firstRunMeetingWith 6 = .ok (.getfield 9, 3) := by decide +kernel
theorem dX3_firstRunMeetingWith_9 : decode cX3_firstRunMeetingWith 9 = .ok (.iconst 1, 1) := by decide +kernel
theorem dX3_firstRunMeetingWith_10 : decode cX3_firstRunMeetingWith 10 = .ok (.isub, 1) := by decide +kernel
theorem dX3_firstRunMeetingWith_11 : decode cX3_firstRunMeetingWith 11 = .ok (.if_icmp .ge 45, 3) := by decide +kernel
theorem dX3_firstRunMeetingWith_14 : decode cX3_firstRunMeetingWith 14 = .ok (.aload_n 0, 1) := by decide +kernel
theorem dX3_firstRunMeetingWith_15 : decode cX3_firstRunMeetingWith 15 = .ok (.iload_n 2, 1) := by decide +kernel
theorem dX3_firstRunMeetingWith_16 : decode cX3_firstRunMeetingWith 16 = .ok (.iload 4, 2) := by decide +kernel
theorem dX3_firstRunMeetingWith_18 : decode cX3_firstRunMeetingWith 18 = .ok (.invokevirtual 53, 3) := by decide +kernel
theorem dX3_firstRunMeetingWith_21 : decode cX3_firstRunMeetingWith 21 = .ok (.aload_n 0, 1) := by decide +kernel
theorem dX3_firstRunMeetingWith_22 : decode cX3_firstRunMeetingWith 22 = .ok (.iload_n 1, 1) := by decide +kernel
theorem dX3_firstRunMeetingWith_23 : decode cX3_firstRunMeetingWith 23 = .ok (.iload 4, 2) := by decide +kernel
theorem dX3_firstRunMeetingWith_25 : decode cX3_firstRunMeetingWith 25 = .ok (.invokevirtual 53, 3) := by decide +kernel
theorem dX3_firstRunMeetingWith_28 : decode cX3_firstRunMeetingWith 28 = .ok (.isub, 1) := by decide +kernel
theorem dX3_firstRunMeetingWith_29 : decode cX3_firstRunMeetingWith 29 = .ok (.iload_n 3, 1) := by decide +kernel
theorem dX3_firstRunMeetingWith_30 : decode cX3_firstRunMeetingWith 30 = .ok (.iadd, 1) := by decide +kernel
theorem dX3_firstRunMeetingWith_31 : decode cX3_firstRunMeetingWith 31 = .ok (.istore 5, 2) := by decide +kernel
theorem dX3_firstRunMeetingWith_33 : decode cX3_firstRunMeetingWith 33 = .ok (.iload 5, 2) := by decide +kernel
theorem dX3_firstRunMeetingWith_35 : decode cX3_firstRunMeetingWith 35 = .ok (.invokestatic 56, 3) := by decide +kernel
theorem dX3_firstRunMeetingWith_38 : decode cX3_firstRunMeetingWith 38 = .ok (.aload_n 0, 1) := by decide +kernel
theorem dX3_firstRunMeetingWith_39 : decode cX3_firstRunMeetingWith 39 = .ok (.iload 4, 2) := by decide +kernel
theorem dX3_firstRunMeetingWith_41 : decode cX3_firstRunMeetingWith 41 = .ok (.invokevirtual 62, 3) := by decide +kernel
theorem dX3_firstRunMeetingWith_44 : decode cX3_firstRunMeetingWith 44 = .ok (.if_icmp .ge 6, 3) := by decide +kernel
theorem dX3_firstRunMeetingWith_47 : decode cX3_firstRunMeetingWith 47 = .ok (.iload 4, 2) := by decide +kernel
theorem dX3_firstRunMeetingWith_49 : decode cX3_firstRunMeetingWith 49 = .ok (.ireturn, 1) := by decide +kernel
theorem dX3_firstRunMeetingWith_50 : decode cX3_firstRunMeetingWith 50 = .ok (.iinc 4 1, 3) := by decide +kernel
theorem dX3_firstRunMeetingWith_53 : decode cX3_firstRunMeetingWith 53 = .ok (.goto (-50), 3) := by decide +kernel
theorem dX3_firstRunMeetingWith_56 : decode cX3_firstRunMeetingWith 56 = .ok (.iconst (-1), 1) := by decide +kernel
theorem dX3_firstRunMeetingWith_57 : decode cX3_firstRunMeetingWith 57 = .ok (.ireturn, 1) := by decide +kernel
theorem dX4_init_0 : decode cX4_init 0 = .ok (.aload_n 0, 1) := by decide +kernel
theorem dX4_init_1 : decode cX4_init 1 = .ok (.invokespecial 3, 3) := by decide +kernel
theorem dX4_init_4 : decode cX4_init 4 = .ok (.aload_n 0, 1) := by decide +kernel
theorem dX4_init_5 : decode cX4_init 5 = .ok (.bipush 7, 2) := by decide +kernel
theorem dX4_init_7 : decode cX4_init 7 = .ok (.newarray .int, 2) := by decide +kernel
theorem dX4_init_9 : decode cX4_init 9 = .ok (.putfield 9, 3) := by decide +kernel
theorem dX4_init_12 : decode cX4_init 12 = .ok (.aload_n 0, 1) := by decide +kernel
theorem dX4_init_13 : decode cX4_init 13 = .ok (.bipush 7, 2) := by decide +kernel
theorem dX4_init_15 : decode cX4_init 15 = .ok (.newarray .int, 2) := by decide +kernel
theorem dX4_init_17 : decode cX4_init 17 = .ok (.putfield 15, 3) := by decide +kernel
theorem dX4_init_20 : decode cX4_init 20 = .ok (.aload_n 0, 1) := by decide +kernel
theorem dX4_init_21 : decode cX4_init 21 = .ok (.iconst 0, 1) := by decide +kernel
theorem dX4_init_22 : decode cX4_init 22 = .ok (.putfield 18, 3) := by decide +kernel
theorem dX4_init_25 : decode cX4_init 25 = .ok (.aload_n 0, 1) := by decide +kernel
theorem dX4_init_26 : decode cX4_init 26 = .ok (.iconst 0, 1) := by decide +kernel
theorem dX4_init_27 : decode cX4_init 27 = .ok (.putfield 22, 3) := by decide +kernel
theorem dX4_init_30 : decode cX4_init 30 = .ok (.return_, 1) := by decide +kernel
set_option maxRecDepth 20000 in
theorem ggX4_seek_X4_goOn : GoodIn wsX4_seek wsX4_goOn := goodIn_r _ [9, 4, 10, 11, 12, 13, 14, 15, 16, 17, 8, 18, 2, 3, 19, 20, 21, 22, 23, 24, 25, 26, 27, 28, 29, 30, 31, 32, 33, 34, 35, 36, 37, 38, 39, 40, 41, 42, 43, 44, 45, 46, 47, 48, 49, 50, 51, 52, 5, 6, 7, 57, 58, 59, 60, 53, 54, 55, 56] (by decide +kernel) (by decide +kernel)
set_option maxRecDepth 20000 in
theorem gX4_seek_X4_goOn : GoodIn wsX4_seek (wsV RX4 33 RX4 yX4_goOn wsX4_goOn) := goodIn_app (goodIn_of _ (by decide +kernel)) ggX4_seek_X4_goOn
theorem dX4_seek_0 : decode cX4_seek 0 = .ok (.aload_n 0, 1) := by decide +kernel
theorem dX4_seek_1 : decode cX4_seek 1 = .ok (.ldc 27, 2) := by decide +kernel
theorem dX4_seek_3 : decode cX4_seek 3 = .ok (.putfield 18, 3) := by decide +kernel
theorem dX4_seek_6 : decode cX4_seek 6 = .ok (.aload_n 0, 1) := by decide +kernel
theorem dX4_seek_7 : decode cX4_seek 7 = .ok (.ldc 27, 2) := by decide +kernel
theorem dX4_seek_9 : decode cX4_seek 9 = .ok (.putfield 22, 3) := by decide +kernel
theorem dX4_seek_12 : decode cX4_seek 12 = .ok (.aload_n 0, 1) := by decide +kernel
theorem dX4_seek_13 : decode cX4_seek 13 = .ok (.aload_n 1, 1) := by decide +kernel
theorem dX4_seek_14 : decode cX4_seek 14 = .ok (.iconst 0, 1) := by decide +kernel
theorem dX4_seek_15 : decode cX4_seek 15 = .ok (.iconst 1, 1) := by decide +kernel
theorem dX4_seek_16 : decode cX4_seek 16 = .ok (.aload_n 1, 1) := by decide +kernel
theorem dX4_seek_17 : decode cX4_seek 17 = .ok (.getfield 28, 3) := by decide +kernel
theorem dX4_seek_20 : decode cX4_seek 20 = .ok (.ishl, 1) := by decide +kernel
theorem dX4_seek_21 : decode cX4_seek 21 = .ok (.iconst 1, 1) := by decide +kernel
theorem dX4_seek_22 : decode cX4_seek 22 = .ok (.isub, 1) := by decide +kernel
theorem dX4_seek_23 : decode cX4_seek 23 = .ok (.iload_n 2, 1) := by decide +kernel
theorem dX4_seek_24 : decode cX4_seek 24 = .ok (.iload_n 3, 1) := by decide +kernel
theorem dX4_seek_25 : decode cX4_seek 25 = .ok (.iconst 0, 1) := by decide +kernel
theorem dX4_seek_26 : decode cX4_seek 26 = .ok (.invokevirtual 33, 3) := by decide +kernel
theorem dX4_seek_29 : decode cX4_seek 29 = .ok (.return_, 1) := by decide +kernel
set_option maxRecDepth 20000 in
theorem ggX4_goOn_X4_keep : GoodIn wsX4_goOn wsX4_keep := goodIn_r _ [11, 12, 13, 14, 6, 55, 56, 57, 58] (by decide +kernel) (by decide +kernel)
set_option maxRecDepth 20000 in
theorem gX4_goOn_X4_keep : GoodIn wsX4_goOn (wsV RX4 37 RX4 yX4_keep wsX4_keep) := goodIn_app (goodIn_of _ (by decide +kernel)) ggX4_goOn_X4_keep
set_option maxRecDepth 20000 in
theorem ggX4_goOn_X8_sunOf : GoodIn wsX4_goOn wsX8_sunOf := goodIn_r _ [19, 20, 21, 22, 23, 18, 24, 25, 51, 52, 53, 54] (by decide +kernel) (by decide +kernel)
set_option maxRecDepth 20000 in
theorem gX4_goOn_X8_sunOf : GoodIn wsX4_goOn (wsV RX4 41 RX8 yX8_sunOf wsX8_sunOf) := goodIn_app (goodIn_of _ (by decide +kernel)) ggX4_goOn_X8_sunOf
set_option maxRecDepth 20000 in
theorem ggX4_goOn_X4_minutesBetween : GoodIn wsX4_goOn wsX4_minutesBetween := goodIn_r _ [28, 29, 30, 4, 31] (by decide +kernel) (by decide +kernel)
set_option maxRecDepth 20000 in
theorem gX4_goOn_X4_minutesBetween : GoodIn wsX4_goOn (va_wsS RX4 45 yX4_minutesBetween wsX4_minutesBetween) := goodIn_app (goodIn_of _ (by decide +kernel)) ggX4_goOn_X4_minutesBetween
set_option maxRecDepth 20000 in
theorem ggX4_goOn_X4_sizeOfError : GoodIn wsX4_goOn wsX4_sizeOfError := goodIn_r _ [34, 29, 30, 4, 31, 35, 36, 37, 18, 38, 39, 40, 21, 22, 23, 24, 25, 51, 52, 53, 54] (by decide +kernel) (by decide +kernel)
set_option maxRecDepth 20000 in
theorem gX4_goOn_X4_sizeOfError : GoodIn wsX4_goOn (va_wsS RX4 49 yX4_sizeOfError wsX4_sizeOfError) := goodIn_app (goodIn_of _ (by decide +kernel)) ggX4_goOn_X4_sizeOfError
set_option maxRecDepth 20000 in
theorem ggX4_goOn_X4_canBeBetter : GoodIn wsX4_goOn wsX4_canBeBetter := goodIn_r _ [44, 1, 45, 46, 4, 47, 2, 3, 5, 12, 13, 15, 16, 17, 18, 19, 20, 21, 22, 23, 24, 25, 26, 27, 10, 28, 29, 30, 31, 32, 33, 34, 35, 36, 37, 38, 39, 40, 51, 52, 53, 54, 55, 56, 57, 58] (by decide +kernel) (by decide +kernel)
set_option maxRecDepth 20000 in
theorem gX4_goOn_X4_canBeBetter : GoodIn wsX4_goOn (wsV RX4 58 RX4 yX4_canBeBetter wsX4_canBeBetter) := goodIn_app (goodIn_of _ (by decide +kernel)) ggX4_goOn_X4_canBeBetter
set_option maxRecDepth 20000 in
theorem ggX4_goOn_X4_goOn : GoodIn wsX4_goOn wsX4_goOn := goodIn_r _ [0, 1, 2, 3, 4, 5, 6, 7, 8, 9, 10, 11, 12, 13, 14, 15, 16, 17, 18, 19, 20, 21, 22, 23, 24, 25, 26, 27, 28, 29, 30, 31, 32, 33, 34, 35, 36, 37, 38, 39, 40, 41, 42, 43, 44, 45, 46, 47, 48, 49, 50, 51, 52, 53, 54, 55, 56, 57, 58] (by decide +kernel) (by decide +kernel)
set_option maxRecDepth 20000 in
theorem gX4_goOn_X4_goOn : GoodIn wsX4_goOn (wsV RX4 33 RX4 yX4_goOn wsX4_goOn) := goodIn_app (goodIn_of _ (by decide +kernel)) ggX4_goOn_X4_goOn
theorem dX4_goOn_0 : decode cX4_goOn 0 = .ok (.iload_n 2, 1) := by decide +kernel
theorem dX4_goOn_1 : decode cX4_goOn 1 = .ok (.ifCond .lt 17, 3) := by decide +kernel
theorem dX4_goOn_4 : decode cX4_goOn 4 = .ok (.iload_n 2, 1) := by decide +kernel
theorem dX4_goOn_5 : decode cX4_goOn 5 = .ok (.aload_n 1, 1) := by decide +kernel
theorem dX4_goOn_6 : decode cX4_goOn 6 = .ok (.getfield 28, 3) := by decide +kernel
theorem dX4_goOn_9 : decode cX4_goOn 9 = .ok (.if_icmp .ge 9, 3) := by decide +kernel
theorem dX4_goOn_12 : decode cX4_goOn 12 = .ok (.iload_n 2, 1) := by decide +kernel
theorem dX4_goOn_13 : decode cX4_goOn 13 = .ok (.bipush 7, 2) := by decide +kernel
theorem dX4_goOn_15 : decode cX4_goOn 15 = .ok (.if_icmp .lt 13, 3) := by decide +kernel
theorem dX4_goOn_18 : decode cX4_goOn 18 = .ok (.aload_n 0, 1) := by decide +kernel
theorem dX4_goOn_19 : decode cX4_goOn 19 = .ok (.iload_n 2, 1) := by decide +kernel
theorem dX4_goOn_20 : decode cX4_goOn 20 = .ok (.iload 5, 2) := by decide +kernel
theorem dX4_goOn_22 : decode cX4_goOn 22 = .ok (.iload 6, 2) := by decide +kernel
theorem dX4_goOn_24 : decode cX4_goOn 24 = .ok (.invokevirtual 37, 3) := by decide +kernel
theorem dX4_goOn_27 : decode cX4_goOn 27 = .ok (.return_, 1) := by decide +kernel
theorem dX4_goOn_28 : decode cX4_goOn 28 = .ok (.iconst 0, 1) := by decide +kernel
theorem dX4_goOn_29 : decode cX4_goOn 29 = .ok (.istore 7, 2) := by decide +kernel
theorem dX4_goOn_31 : decode cX4_goOn 31 = .ok (.iload 7, 2) := by decide +kernel
theorem dX4_goOn_33 : decode cX4_goOn 33 = .ok (.aload_n 1, 1) := by decide +kernel
theorem dX4_goOn_34 : decode cX4_goOn 34 = .ok (.getfield 28, 3) := by decide +kernel
theorem dX4_goOn_37 : decode cX4_goOn 37 = .ok (.if_icmp .ge 109, 3) := by decide +kernel
theorem dX4_goOn_40 : decode cX4_goOn 40 = .ok (.iload_n 3, 1) := by decide +kernel
theorem dX4_goOn_41 : decode cX4_goOn 41 = .ok (.iconst 1, 1) := by decide +kernel
theorem dX4_goOn_42 : decode cX4_goOn 42 = .ok (.iload 7, 2) := by decide +kernel
theorem dX4_goOn_44 : decode cX4_goOn 44 = .ok (.ishl, 1) := by decide +kernel
theorem dX4_goOn_45 : decode cX4_goOn 45 = .ok (.iand, 1) := by decide +kernel
theorem dX4_goOn_46 : decode cX4_goOn 46 = .ok (.ifCond .eq 94, 3) := by decide +kernel
theorem dX4_goOn_49 : decode cX4_goOn 49 = .ok (.aload_n 1, 1) := by decide +kernel
theorem dX4_goOn_50 : decode cX4_goOn 50 = .ok (.iload 7, 2) := by decide +kernel
theorem dX4_goOn_52 : decode cX4_goOn 52 = .ok (.invokevirtual 41, 3) := by decide +kernel
theorem dX4_goOn_55 : decode cX4_goOn 55 = .ok (.istore 8, 2) := by decide +kernel
theorem dX4_goOn_57 : decode cX4_goOn 57 = .ok (.iload 5, 2) := by decide +kernel
theorem dX4_goOn_59 : decode cX4_goOn 59 = .ok (.iload 4, 2) := by decide +kernel
theorem dX4_goOn_61 : decode cX4_goOn 61 = .ok (.iload 8, 2) := by decide +kernel
theorem dX4_goOn_63 : decode cX4_goOn 63 = .ok (.invokestatic 45, 3) := by decide +kernel
theorem dX4_goOn_66 : decode cX4_goOn 66 = .ok (.iadd, 1) := by decide +kernel
theorem dX4_goOn_67 : decode cX4_goOn 67 = .ok (.istore 9, 2) := by decide +kernel
theorem dX4_goOn_69 : decode cX4_goOn 69 = .ok (.iload 6, 2) := by decide +kernel
theorem dX4_goOn_71 : decode cX4_goOn 71 = .ok (.aload_n 1, 1) := by decide +kernel
theorem dX4_goOn_72 : decode cX4_goOn 72 = .ok (.iload 7, 2) := by decide +kernel
theorem dX4_goOn_74 : decode cX4_goOn 74 = .ok (.iload 9, 2) := by decide +kernel
theorem dX4_goOn_76 : decode cX4_goOn 76 = .ok (.invokestatic 49, 3) := by decide +kernel
theorem dX4_goOn_79 : decode cX4_goOn 79 = .ok (.invokestatic 53, 3) := by decide +kernel
theorem dX4_goOn_82 : decode cX4_goOn 82 = .ok (.istore 10, 2) := by decide +kernel
theorem dX4_goOn_84 : decode cX4_goOn 84 = .ok (.iload_n 3, 1) := by decide +kernel
theorem dX4_goOn_85 : decode cX4_goOn 85 = .ok (.iconst 1, 1) := by decide +kernel
theorem dX4_goOn_86 : decode cX4_goOn 86 = .ok (.iload 7, 2) := by decide +kernel
theorem dX4_goOn_88 : decode cX4_goOn 88 = .ok (.ishl, 1) := by decide +kernel
theorem dX4_goOn_89 : decode cX4_goOn 89 = .ok (.iconst (-1), 1) := by decide +kernel
theorem dX4_goOn_90 : decode cX4_goOn 90 = .ok (.ixor, 1) := by decide +kernel
theorem dX4_goOn_91 : decode cX4_goOn 91 = .ok (.iand, 1) := by decide +kernel
theorem dX4_goOn_92 : decode cX4_goOn 92 = .ok (.istore 11, 2) := by decide +kernel
theorem dX4_goOn_94 : decode cX4_goOn 94 = .ok (.aload_n 0, 1) := by decide +kernel
theorem dX4_goOn_95 : decode cX4_goOn 95 = .ok (.aload_n 1, 1) := by decide +kernel
theorem dX4_goOn_96 : decode cX4_goOn 96 = .ok (.iload 11, 2) := by decide +kernel
theorem dX4_goOn_98 : decode cX4_goOn 98 = .ok (.iload 8, 2) := by decide +kernel
theorem dX4_goOn_100 : decode cX4_goOn 100 = .ok (.iload 9, 2) := by decide +kernel
theorem dX4_goOn_102 : decode cX4_goOn 102 = .ok (.bipush 30, 2) := by decide +kernel
theorem dX4_goOn_104 : decode cX4_goOn 104 = .ok (.iadd, 1) := by decide +kernel
theorem dX4_goOn_105 : decode cX4_goOn 105 = .ok (.iload 10, 2) := by decide +kernel
theorem dX4_goOn_107 : decode cX4_goOn 107 = .ok (.invokevirtual 58, 3) := by decide +kernel
theorem dX4_goOn_110 : decode cX4_goOn 110 = .ok (.ifCond .eq 30, 3) := by decide +kernel
theorem dX4_goOn_113 : decode cX4_goOn 113 = .ok (.aload_n 0, 1) := by decide +kernel
theorem dX4_goOn_114 : decode cX4_goOn 114 = .ok (.getfield 9, 3) := by decide +kernel
theorem dX4_goOn_117 : decode cX4_goOn 117 = .ok (.iload_n 2, 1) := by decide +kernel
theorem dX4_goOn_118 : decode cX4_goOn 118 = .ok (.iload 7, 2) := by decide +kernel
theorem dX4_goOn_120 : decode cX4_goOn 120 = .ok (.iastore, 1) := by decide +kernel
theorem dX4_goOn_121 : decode cX4_goOn 121 = .ok (.aload_n 0, 1) := by decide +kernel
theorem dX4_goOn_122 : decode cX4_goOn 122 = .ok (.aload_n 1, 1) := by decide +kernel
theorem dX4_goOn_123 : decode cX4_goOn 123 = .ok (.iload_n 2, 1) := by decide +kernel
theorem dX4_goOn_124 : decode cX4_goOn 124 = .ok (.iconst 1, 1) := by decide +kernel
theorem dX4_goOn_125 : decode cX4_goOn 125 = .ok (.iadd, 1) := by decide +kernel
theorem dX4_goOn_126 : decode cX4_goOn 126 = .ok (.iload 11, 2) := by decide +kernel
theorem dX4_goOn_128 : decode cX4_goOn 128 = .ok (.iload 8, 2) := by decide +kernel
theorem dX4_goOn_130 : decode cX4_goOn 130 = .ok (.iload 9, 2) := by decide +kernel
theorem dX4_goOn_132 : decode cX4_goOn 132 = .ok (.bipush 30, 2) := by decide +kernel
theorem dX4_goOn_134 : decode cX4_goOn 134 = .ok (.iadd, 1) := by decide +kernel
theorem dX4_goOn_135 : decode cX4_goOn 135 = .ok (.iload 10, 2) := by decide +kernel
theorem dX4_goOn_137 : decode cX4_goOn 137 = .ok (.invokevirtual 33, 3) := by decide +kernel
theorem dX4_goOn_140 : decode cX4_goOn 140 = .ok (.iinc 7 1, 3) := by decide +kernel
theorem dX4_goOn_143 : decode cX4_goOn 143 = .ok (.goto (-112), 3) := by decide +kernel
theorem dX4_goOn_146 : decode cX4_goOn 146 = .ok (.return_, 1) := by decide +kernel
theorem dX4_minutesBetween_0 : decode cX4_minutesBetween 0 = .ok (.bipush 10, 2) := by decide +kernel
theorem dX4_minutesBetween_2 : decode cX4_minutesBetween 2 = .ok (.iload_n 0, 1) := by decide +kernel
theorem dX4_minutesBetween_3 : decode cX4_minutesBetween 3 = .ok (.iload_n 1, 1) := by decide +kernel
theorem dX4_minutesBetween_4 : decode cX4_minutesBetween 4 = .ok (.isub, 1) := by decide +kernel
theorem dX4_minutesBetween_5 : decode cX4_minutesBetween 5 = .ok (.invokestatic 62, 3) := by decide +kernel
theorem dX4_minutesBetween_8 : decode cX4_minutesBetween 8 = .ok (.imul, 1) := by decide +kernel
theorem dX4_minutesBetween_9 : decode cX4_minutesBetween 9 = .ok (.ireturn, 1) := by decide +kernel
set_option maxRecDepth 20000 in
theorem ggX4_sizeOfError_X8_errorAt : GoodIn wsX4_sizeOfError wsX8_errorAt := goodIn_r _ [9, 10, 11, 12, 13, 14, 8, 15, 16, 17, 18, 19, 20] (by decide +kernel) (by decide +kernel)
set_option maxRecDepth 20000 in
theorem gX4_sizeOfError_X8_errorAt : GoodIn wsX4_sizeOfError (wsV RX4 65 RX8 yX8_errorAt wsX8_errorAt) := goodIn_app (goodIn_of _ (by decide +kernel)) ggX4_sizeOfError_X8_errorAt
theorem dX4_sizeOfError_0 : decode cX4_sizeOfError 0 = .ok (.aload_n 0, 1) := by decide +kernel
theorem dX4_sizeOfError_1 : decode cX4_sizeOfError 1 = .ok (.iload_n 1, 1) := by decide +kernel
theorem dX4_sizeOfError_2 : decode cX4_sizeOfError 2 = .ok (.iload_n 2, 1) := by decide +kernel
theorem dX4_sizeOfError_3 : decode cX4_sizeOfError 3 = .ok (.invokevirtual 65, 3) := by decide +kernel
theorem dX4_sizeOfError_6 : decode cX4_sizeOfError 6 = .ok (.invokestatic 62, 3) := by decide +kernel
theorem dX4_sizeOfError_9 : decode cX4_sizeOfError 9 = .ok (.ireturn, 1) := by decide +kernel
set_option maxRecDepth 20000 in
theorem ggX4_canBeBetter_X8_sunOf : GoodIn wsX4_canBeBetter wsX8_sunOf := goodIn_r _ [15, 16, 17, 18, 19, 14, 20, 21, 38, 39, 40, 41] (by decide +kernel) (by decide +kernel)
set_option maxRecDepth 20000 in
theorem gX4_canBeBetter_X8_sunOf : GoodIn wsX4_canBeBetter (wsV RX4 41 RX8 yX8_sunOf wsX8_sunOf) := goodIn_app (goodIn_of _ (by decide +kernel)) ggX4_canBeBetter_X8_sunOf
set_option maxRecDepth 20000 in
theorem ggX4_canBeBetter_X4_minutesBetween : GoodIn wsX4_canBeBetter wsX4_minutesBetween := goodIn_r _ [25, 26, 27, 4, 28] (by decide +kernel) (by decide +kernel)
set_option maxRecDepth 20000 in
theorem gX4_canBeBetter_X4_minutesBetween : GoodIn wsX4_canBeBetter (va_wsS RX4 45 yX4_minutesBetween wsX4_minutesBetween) := goodIn_app (goodIn_of _ (by decide +kernel)) ggX4_canBeBetter_X4_minutesBetween
set_option maxRecDepth 20000 in
theorem ggX4_canBeBetter_X4_sizeOfError : GoodIn wsX4_canBeBetter wsX4_sizeOfError := goodIn_r _ [31, 26, 27, 4, 28, 32, 33, 34, 14, 35, 36, 37, 17, 18, 19, 20, 21, 38, 39, 40, 41] (by decide +kernel) (by decide +kernel)
set_option maxRecDepth 20000 in
theorem gX4_canBeBetter_X4_sizeOfError : GoodIn wsX4_canBeBetter (va_wsS RX4 49 yX4_sizeOfError wsX4_sizeOfError) := goodIn_app (goodIn_of _ (by decide +kernel)) ggX4_canBeBetter_X4_sizeOfError
theorem dX4_canBeBetter_0 : decode cX4_canBeBetter 0 = .ok (.iload_n 3, 1) := by decide +kernel
theorem dX4_canBeBetter_1 : decode cX4_canBeBetter 1 = .ok (.istore 6, 2) := by decide +kernel
theorem dX4_canBeBetter_3 : decode cX4_canBeBetter 3 = .ok (.iload_n 3, 1) := by decide +kernel
theorem dX4_canBeBetter_4 : decode cX4_canBeBetter 4 = .ok (.istore 7, 2) := by decide +kernel
theorem dX4_canBeBetter_6 : decode cX4_canBeBetter 6 = .ok (.iconst 0, 1) := by decide +kernel
theorem dX4_canBeBetter_7 : decode cX4_canBeBetter 7 = .ok (.istore 8, 2) := by decide +kernel
theorem dX4_canBeBetter_9 : decode cX4_canBeBetter 9 = .ok (.iload 5, 2) := by decide +kernel
theorem dX4_canBeBetter_11 : decode cX4_canBeBetter 11 = .ok (.istore 9, 2) := by decide +kernel
theorem dX4_canBeBetter_13 : decode cX4_canBeBetter 13 = .ok (.iconst 0, 1) := by decide +kernel
theorem dX4_canBeBetter_14 : decode cX4_canBeBetter 14 = .ok (.istore 10, 2) := by decide +kernel
theorem dX4_canBeBetter_16 : decode cX4_canBeBetter 16 = .ok (.iload 10, 2) := by decide +kernel
theorem dX4_canBeBetter_18 : decode cX4_canBeBetter 18 = .ok (.aload_n 1, 1) := by decide +kernel
theorem dX4_canBeBetter_19 : decode cX4_canBeBetter 19 = .ok (.getfield 28, 3) := by decide +kernel
theorem dX4_canBeBetter_22 : decode cX4_canBeBetter 22 = .ok (.if_icmp .ge 69, 3) := by decide +kernel
theorem dX4_canBeBetter_25 : decode cX4_canBeBetter 25 = .ok (.iload_n 2, 1) := by decide +kernel
theorem dX4_canBeBetter_26 : decode cX4_canBeBetter 26 = .ok (.iconst 1, 1) := by decide +kernel
theorem dX4_canBeBetter_27 : decode cX4_canBeBetter 27 = .ok (.iload 10, 2) := by decide +kernel
theorem dX4_canBeBetter_29 : decode cX4_canBeBetter 29 = .ok (.ishl, 1) := by decide +kernel
theorem dX4_canBeBetter_30 : decode cX4_canBeBetter 30 = .ok (.iand, 1) := by decide +kernel
theorem dX4_canBeBetter_31 : decode cX4_canBeBetter 31 = .ok (.ifCond .eq 54, 3) := by decide +kernel
theorem dX4_canBeBetter_34 : decode cX4_canBeBetter 34 = .ok (.aload_n 1, 1) := by decide +kernel
theorem dX4_canBeBetter_35 : decode cX4_canBeBetter 35 = .ok (.iload 10, 2) := by decide +kernel
theorem dX4_canBeBetter_37 : decode cX4_canBeBetter 37 = .ok (.invokevirtual 41, 3) := by decide +kernel
theorem dX4_canBeBetter_40 : decode cX4_canBeBetter 40 = .ok (.istore 11, 2) := by decide +kernel
theorem dX4_canBeBetter_42 : decode cX4_canBeBetter 42 = .ok (.iload 6, 2) := by decide +kernel
theorem dX4_canBeBetter_44 : decode cX4_canBeBetter 44 = .ok (.iload 11, 2) := by decide +kernel
theorem dX4_canBeBetter_46 : decode cX4_canBeBetter 46 = .ok (.invokestatic 68, 3) := by decide +kernel
theorem dX4_canBeBetter_49 : decode cX4_canBeBetter 49 = .ok (.istore 6, 2) := by decide +kernel
theorem dX4_canBeBetter_51 : decode cX4_canBeBetter 51 = .ok (.iload 7, 2) := by decide +kernel
theorem dX4_canBeBetter_53 : decode cX4_canBeBetter 53 = .ok (.iload 11, 2) := by decide +kernel
theorem dX4_canBeBetter_55 : decode cX4_canBeBetter 55 = .ok (.invokestatic 53, 3) := by decide +kernel
theorem dX4_canBeBetter_58 : decode cX4_canBeBetter 58 = .ok (.istore 7, 2) := by decide +kernel
theorem dX4_canBeBetter_60 : decode cX4_canBeBetter 60 = .ok (.iload 9, 2) := by decide +kernel
theorem dX4_canBeBetter_62 : decode cX4_canBeBetter 62 = .ok (.aload_n 1, 1) := by decide +kernel
theorem dX4_canBeBetter_63 : decode cX4_canBeBetter 63 = .ok (.iload 10, 2) := by decide +kernel
theorem dX4_canBeBetter_65 : decode cX4_canBeBetter 65 = .ok (.iload 4, 2) := by decide +kernel
theorem dX4_canBeBetter_67 : decode cX4_canBeBetter 67 = .ok (.iload_n 3, 1) := by decide +kernel
theorem dX4_canBeBetter_68 : decode cX4_canBeBetter 68 = .ok (.iload 11, 2) := by decide +kernel
theorem dX4_canBeBetter_70 : decode cX4_canBeBetter 70 = .ok (.invokestatic 45, 3) := by decide +kernel
theorem dX4_canBeBetter_73 : decode cX4_canBeBetter 73 = .ok (.iadd, 1) := by decide +kernel
theorem dX4_canBeBetter_74 : decode cX4_canBeBetter 74 = .ok (.invokestatic 49, 3) := by decide +kernel
theorem dX4_canBeBetter_77 : decode cX4_canBeBetter 77 = .ok (.invokestatic 53, 3) := by decide +kernel
theorem dX4_canBeBetter_80 : decode cX4_canBeBetter 80 = .ok (.istore 9, 2) := by decide +kernel
theorem dX4_canBeBetter_82 : decode cX4_canBeBetter 82 = .ok (.iinc 8 1, 3) := by decide +kernel
theorem dX4_canBeBetter_85 : decode cX4_canBeBetter 85 = .ok (.iinc 10 1, 3) := by decide +kernel
theorem dX4_canBeBetter_88 : decode cX4_canBeBetter 88 = .ok (.goto (-72), 3) := by decide +kernel
theorem dX4_canBeBetter_91 : decode cX4_canBeBetter 91 = .ok (.iload 7, 2) := by decide +kernel
theorem dX4_canBeBetter_93 : decode cX4_canBeBetter 93 = .ok (.iload 6, 2) := by decide +kernel
theorem dX4_canBeBetter_95 : decode cX4_canBeBetter 95 = .ok (.isub, 1) := by decide +kernel
theorem dX4_canBeBetter_96 : decode cX4_canBeBetter 96 = .ok (.iload_n 3, 1) := by decide +kernel
theorem dX4_canBeBetter_97 : decode cX4_canBeBetter 97 = .ok (.iload 6, 2) := by decide +kernel
theorem dX4_canBeBetter_99 : decode cX4_canBeBetter 99 = .ok (.isub, 1) := by decide +kernel
theorem dX4_canBeBetter_100 : decode cX4_canBeBetter 100 = .ok (.iload 7, 2) := by decide +kernel
theorem dX4_canBeBetter_102 : decode cX4_canBeBetter 102 = .ok (.iload_n 3, 1) := by decide +kernel
theorem dX4_canBeBetter_103 : decode cX4_canBeBetter 103 = .ok (.isub, 1) := by decide +kernel
theorem dX4_canBeBetter_104 : decode cX4_canBeBetter 104 = .ok (.invokestatic 68, 3) := by decide +kernel
theorem dX4_canBeBetter_107 : decode cX4_canBeBetter 107 = .ok (.iadd, 1) := by decide +kernel
theorem dX4_canBeBetter_108 : decode cX4_canBeBetter 108 = .ok (.istore 10, 2) := by decide +kernel
theorem dX4_canBeBetter_110 : decode cX4_canBeBetter 110 = .ok (.iload 4, 2) := by decide +kernel
theorem dX4_canBeBetter_112 : decode cX4_canBeBetter 112 = .ok (.bipush 30, 2) := by decide +kernel
theorem dX4_canBeBetter_114 : decode cX4_canBeBetter 114 = .ok (.iload 8, 2) := by decide +kernel
theorem dX4_canBeBetter_116 : decode cX4_canBeBetter 116 = .ok (.imul, 1) := by decide +kernel
theorem dX4_canBeBetter_117 : decode cX4_canBeBetter 117 = .ok (.iadd, 1) := by decide +kernel
theorem dX4_canBeBetter_118 : decode cX4_canBeBetter 118 = .ok (.bipush 10, 2) := by decide +kernel
theorem dX4_canBeBetter_120 : decode cX4_canBeBetter 120 = .ok (.iload 10, 2) := by decide +kernel
theorem dX4_canBeBetter_122 : decode cX4_canBeBetter 122 = .ok (.imul, 1) := by decide +kernel
theorem dX4_canBeBetter_123 : decode cX4_canBeBetter 123 = .ok (.iadd, 1) := by decide +kernel
theorem dX4_canBeBetter_124 : decode cX4_canBeBetter 124 = .ok (.istore 11, 2) := by decide +kernel
theorem dX4_canBeBetter_126 : decode cX4_canBeBetter 126 = .ok (.iload 9, 2) := by decide +kernel
theorem dX4_canBeBetter_128 : decode cX4_canBeBetter 128 = .ok (.aload_n 0, 1) := by decide +kernel
theorem dX4_canBeBetter_129 : decode cX4_canBeBetter 129 = .ok (.getfield 18, 3) := by decide +kernel
theorem dX4_canBeBetter_132 : decode cX4_canBeBetter 132 = .ok (.if_icmp .lt 21, 3) := by decide +kernel
theorem dX4_canBeBetter_135 : decode cX4_canBeBetter 135 = .ok (.iload 9, 2) := by decide +kernel
theorem dX4_canBeBetter_137 : decode cX4_canBeBetter 137 = .ok (.aload_n 0, 1) := by decide +kernel
theorem dX4_canBeBetter_138 : decode cX4_canBeBetter 138 = .ok (.getfield 18, 3) := by decide +kernel
theorem dX4_canBeBetter_141 : decode cX4_canBeBetter 141 = .ok (.if_icmp .ne 16, 3) := by decide +kernel
theorem dX4_canBeBetter_144 : decode cX4_canBeBetter 144 = .ok (.iload 11, 2) := by decide +kernel
theorem dX4_canBeBetter_146 : decode cX4_canBeBetter 146 = .ok (.aload_n 0, 1) := by decide +kernel
theorem dX4_canBeBetter_147 : decode cX4_canBeBetter 147 = .ok (.getfield 22, 3) := by decide +kernel
theorem dX4_canBeBetter_150 : decode cX4_canBeBetter 150 = .ok (.if_icmp .ge 7, 3) := by decide +kernel
theorem dX4_canBeBetter_153 : decode cX4_canBeBetter 153 = .ok (.iconst 1, 1) := by decide +kernel
theorem dX4_canBeBetter_154 : decode cX4_canBeBetter 154 = .ok (.goto 4, 3) := by decide +kernel
theorem dX4_canBeBetter_157 : decode cX4_canBeBetter 157 = .ok (.iconst 0, 1) := by decide +kernel
theorem dX4_canBeBetter_158 : decode cX4_canBeBetter 158 = .ok (.ireturn, 1) := by decide +kernel
theorem dX4_keep_0 : decode cX4_keep 0 = .ok (.aload_n 0, 1) := by decide +kernel
theorem dX4_keep_1 : decode cX4_keep 1 = .ok (.iload_n 3, 1) := by decide +kernel
theorem dX4_keep_2 : decode cX4_keep 2 = .ok (.putfield 18, 3) := by decide +kernel
theorem dX4_keep_5 : decode cX4_keep 5 = .ok (.aload_n 0, 1) := by decide +kernel
theorem dX4_keep_6 : decode cX4_keep 6 = .ok (.iload_n 2, 1) := by decide +kernel
theorem dX4_keep_7 : decode cX4_keep 7 = .ok (.putfield 22, 3) := by decide +kernel
theorem dX4_keep_10 : decode cX4_keep 10 = .ok (.iconst 0, 1) := by decide +kernel
theorem dX4_keep_11 : decode cX4_keep 11 = .ok (.istore 4, 2) := by decide +kernel
theorem dX4_keep_13 : decode cX4_keep 13 = .ok (.iload 4, 2) := by decide +kernel
theorem dX4_keep_15 : decode cX4_keep 15 = .ok (.iload_n 1, 1) := by decide +kernel
theorem dX4_keep_16 : decode cX4_keep 16 = .ok (.if_icmp .ge 30, 3) := by decide +kernel
theorem dX4_keep_19 : decode cX4_keep 19 = .ok (.iload 4, 2) := by decide +kernel
theorem dX4_keep_21 : decode cX4_keep 21 = .ok (.bipush 7, 2) := by decide +kernel
theorem dX4_keep_23 : decode cX4_keep 23 = .ok (.if_icmp .ge 23, 3) := by decide +kernel
theorem dX4_keep_26 : decode cX4_keep 26 = .ok (.aload_n 0, 1) := by decide +kernel
theorem dX4_keep_27 : decode cX4_keep 27 = .ok (.getfield 15, 3) := by decide +kernel
theorem dX4_keep_30 : decode cX4_keep 30 = .ok (.iload 4, 2) := by decide +kernel
theorem dX4_keep_32 : decode cX4_keep 32 = .ok (.aload_n 0, 1) := by decide +kernel
theorem dX4_keep_33 : decode cX4_keep 33 = .ok (.getfield 9, 3) := by decide +kernel
theorem dX4_keep_36 : decode cX4_keep 36 = .ok (.iload 4, 2) := by decide +kernel
theorem dX4_keep_38 : decode cX4_keep 38 = .ok (.iaload, 1) := by decide +kernel
theorem dX4_keep_39 : decode cX4_keep 39 = .ok (.iastore, 1) := by decide +kernel
theorem dX4_keep_40 : decode cX4_keep 40 = .ok (.iinc 4 1, 3) := by decide +kernel
theorem dX4_keep_43 : decode cX4_keep 43 = .ok (.goto (-30), 3) := by decide +kernel
theorem dX4_keep_46 : decode cX4_keep 46 = .ok (.return_, 1) := by decide +kernel
theorem dX5_init_0 : decode cX5_init 0 = .ok (.aload_n 0, 1) := by decide +kernel
theorem dX5_init_1 : decode cX5_init 1 = .ok (.invokespecial 3, 3) := by decide +kernel
theorem dX5_init_4 : decode cX5_init 4 = .ok (.aload_n 0, 1) := by decide +kernel
theorem dX5_init_5 : decode cX5_init 5 = .ok (.bipush 8, 2) := by decide +kernel
theorem dX5_init_7 : decode cX5_init 7 = .ok (.newarray .int, 2) := by decide +kernel
theorem dX5_init_9 : decode cX5_init 9 = .ok (.putfield 9, 3) := by decide +kernel
theorem dX5_init_12 : decode cX5_init 12 = .ok (.aload_n 0, 1) := by decide +kernel
theorem dX5_init_13 : decode cX5_init 13 = .ok (.iconst 0, 1) := by decide +kernel
theorem dX5_init_14 : decode cX5_init 14 = .ok (.putfield 15, 3) := by decide +kernel
theorem dX5_init_17 : decode cX5_init 17 = .ok (.return_, 1) := by decide +kernel
theorem dX5_clear_0 : decode cX5_clear 0 = .ok (.aload_n 0, 1) := by decide +kernel
theorem dX5_clear_1 : decode cX5_clear 1 = .ok (.iconst 0, 1) := by decide +kernel
theorem dX5_clear_2 : decode cX5_clear 2 = .ok (.putfield 15, 3) := by decide +kernel
theorem dX5_clear_5 : decode cX5_clear 5 = .ok (.return_, 1) := by decide +kernel
theorem dX5_add_0 : decode cX5_add 0 = .ok (.aload_n 0, 1) := by decide +kernel
theorem dX5_add_1 : decode cX5_add 1 = .ok (.getfield 15, 3) := by decide +kernel
theorem dX5_add_4 : decode cX5_add 4 = .ok (.aload_n 0, 1) := by decide +kernel
theorem dX5_add_5 : decode cX5_add 5 = .ok (.getfield 9, 3) := by decide +kernel
theorem dX5_add_8 : decode cX5_add 8 = .ok (.arraylength, 1) := by decide +kernel
theorem dX5_add_9 : decode cX5_add 9 = .ok (.if_icmp .ge 23, 3) := by decide +kernel
theorem dX5_add_12 : decode cX5_add 12 = .ok (.aload_n 0, 1) := by decide +kernel
theorem dX5_add_13 : decode cX5_add 13 = .ok (.getfield 9, 3) := by decide +kernel
theorem dX5_add_16 : decode cX5_add 16 = .ok (.aload_n 0, 1) := by decide +kernel
theorem dX5_add_17 : decode cX5_add 17 = .ok (.getfield 15, 3) := by decide +kernel
theorem dX5_add_20 : decode cX5_add 20 = .ok (.iload_n 1, 1) := by decide +kernel
theorem dX5_add_21 : decode cX5_add 21 = .ok (.iastore, 1) := by decide +kernel
theorem dX5_add_22 : decode cX5_add 22 = .ok (.aload_n 0, 1) := by decide +kernel
theorem dX5_add_23 : decode cX5_add 23 = .ok (.dup, 1) := by decide +kernel
theorem dX5_add_24 : decode cX5_add 24 = .ok (.getfield 15, 3) := by decide +kernel
theorem dX5_add_27 : decode cX5_add 27 = .ok (.iconst 1, 1) := by decide +kernel
theorem dX5_add_28 : decode cX5_add 28 = .ok (.iadd, 1) := by decide +kernel
theorem dX5_add_29 : decode cX5_add 29 = .ok (.putfield 15, 3) := by decide +kernel
theorem dX5_add_32 : decode cX5_add 32 = .ok (.return_, 1) := by decide +kernel
set_option maxRecDepth 20000 in
theorem ggX5_addMinute_X5_add : GoodIn wsX5_addMinute wsX5_add := goodIn_r _ [5, 6, 7, 8, 9] (by decide +kernel) (by decide +kernel)
set_option maxRecDepth 20000 in
theorem gX5_addMinute_X5_add : GoodIn wsX5_addMinute (wsV RX5 19 RX5 yX5_add wsX5_add) := goodIn_app (goodIn_of _ (by decide +kernel)) ggX5_addMinute_X5_add
theorem dX5_addMinute_0 : decode cX5_addMinute 0 = .ok (.iload_n 1, 1) := by decide +kernel
theorem dX5_addMinute_1 : decode cX5_addMinute 1 = .ok (.iconst (-1), 1) := by decide +kernel
theorem dX5_addMinute_2 : decode cX5_addMinute 2 = .ok (.if_icmp .eq 8, 3) := by decide +kernel
theorem dX5_addMinute_5 : decode cX5_addMinute 5 = .ok (.aload_n 0, 1) := by decide +kernel
theorem dX5_addMinute_6 : decode cX5_addMinute 6 = .ok (.iload_n 1, 1) := by decide +kernel
theorem dX5_addMinute_7 : decode cX5_addMinute 7 = .ok (.invokevirtual 19, 3) := by decide +kernel
theorem dX5_addMinute_10 : decode cX5_addMinute 10 = .ok (.return_, 1) := by decide +kernel
theorem dX6_init_0 : decode cX6_init 0 = .ok (.aload_n 0, 1) := by decide +kernel
theorem dX6_init_1 : decode cX6_init 1 = .ok (.invokespecial 3, 3) := by decide +kernel
theorem dX6_init_4 : decode cX6_init 4 = .ok (.aload_n 0, 1) := by decide +kernel
theorem dX6_init_5 : decode cX6_init 5 = .ok (.iconst 0, 1) := by decide +kernel
theorem dX6_init_6 : decode cX6_init 6 = .ok (.putfield 9, 3) := by decide +kernel
theorem dX6_init_9 : decode cX6_init 9 = .ok (.aload_n 0, 1) := by decide +kernel
theorem dX6_init_10 : decode cX6_init 10 = .ok (.iload_n 1, 1) := by decide +kernel
theorem dX6_init_11 : decode cX6_init 11 = .ok (.iconst 0, 1) := by decide +kernel
theorem dX6_init_12 : decode cX6_init 12 = .ok (.invokestatic 15, 3) := by decide +kernel
theorem dX6_init_15 : decode cX6_init 15 = .ok (.newarray .int, 2) := by decide +kernel
theorem dX6_init_17 : decode cX6_init 17 = .ok (.putfield 21, 3) := by decide +kernel
theorem dX6_init_20 : decode cX6_init 20 = .ok (.aload_n 0, 1) := by decide +kernel
theorem dX6_init_21 : decode cX6_init 21 = .ok (.iload_n 1, 1) := by decide +kernel
theorem dX6_init_22 : decode cX6_init 22 = .ok (.iconst 0, 1) := by decide +kernel
theorem dX6_init_23 : decode cX6_init 23 = .ok (.invokestatic 15, 3) := by decide +kernel
theorem dX6_init_26 : decode cX6_init 26 = .ok (.newarray .int, 2) := by decide +kernel
theorem dX6_init_28 : decode cX6_init 28 = .ok (.putfield 25, 3) := by decide +kernel
theorem dX6_init_31 : decode cX6_init 31 = .ok (.return_, 1) := by decide +kernel
theorem dX6_isFull_0 : decode cX6_isFull 0 = .ok (.aload_n 0, 1) := by decide +kernel
theorem dX6_isFull_1 : decode cX6_isFull 1 = .ok (.getfield 9, 3) := by decide +kernel
theorem dX6_isFull_4 : decode cX6_isFull 4 = .ok (.aload_n 0, 1) := by decide +kernel
theorem dX6_isFull_5 : decode cX6_isFull 5 = .ok (.getfield 21, 3) := by decide +kernel
theorem dX6_isFull_8 : decode cX6_isFull 8 = .ok (.arraylength, 1) := by decide +kernel
theorem dX6_isFull_9 : decode cX6_isFull 9 = .ok (.if_icmp .lt 7, 3) := by decide +kernel
theorem dX6_isFull_12 : decode cX6_isFull 12 = .ok (.iconst 1, 1) := by decide +kernel
theorem dX6_isFull_13 : decode cX6_isFull 13 = .ok (.goto 4, 3) := by decide +kernel
theorem dX6_isFull_16 : decode cX6_isFull 16 = .ok (.iconst 0, 1) := by decide +kernel
theorem dX6_isFull_17 : decode cX6_isFull 17 = .ok (.ireturn, 1) := by decide +kernel
theorem dX6_add_0 : decode cX6_add 0 = .ok (.aload_n 0, 1) := by decide +kernel
theorem dX6_add_1 : decode cX6_add 1 = .ok (.getfield 9, 3) := by decide +kernel
theorem dX6_add_4 : decode cX6_add 4 = .ok (.aload_n 0, 1) := by decide +kernel
theorem dX6_add_5 : decode cX6_add 5 = .ok (.getfield 21, 3) := by decide +kernel
theorem dX6_add_8 : decode cX6_add 8 = .ok (.arraylength, 1) := by decide +kernel
theorem dX6_add_9 : decode cX6_add 9 = .ok (.if_icmp .ge 45, 3) := by decide +kernel
theorem dX6_add_12 : decode cX6_add 12 = .ok (.aload_n 0, 1) := by decide +kernel
theorem dX6_add_13 : decode cX6_add 13 = .ok (.getfield 9, 3) := by decide +kernel
theorem dX6_add_16 : decode cX6_add 16 = .ok (.aload_n 0, 1) := by decide +kernel
theorem dX6_add_17 : decode cX6_add 17 = .ok (.getfield 25, 3) := by decide +kernel
theorem dX6_add_20 : decode cX6_add 20 = .ok (.arraylength, 1) := by decide +kernel
theorem dX6_add_21 : decode cX6_add 21 = .ok (.if_icmp .ge 33, 3) := by decide +kernel
theorem dX6_add_24 : decode cX6_add 24 = .ok (.aload_n 0, 1) := by decide +kernel
theorem dX6_add_25 : decode cX6_add 25 = .ok (.getfield 21, 3) := by decide +kernel
theorem dX6_add_28 : decode cX6_add 28 = .ok (.aload_n 0, 1) := by decide +kernel
theorem dX6_add_29 : decode cX6_add 29 = .ok (.getfield 9, 3) := by decide +kernel
theorem dX6_add_32 : decode cX6_add 32 = .ok (.iload_n 1, 1) := by decide +kernel
theorem dX6_add_33 : decode cX6_add 33 = .ok (.iastore, 1) := by decide +kernel
theorem dX6_add_34 : decode cX6_add 34 = .ok (.aload_n 0, 1) := by decide +kernel
theorem dX6_add_35 : decode cX6_add 35 = .ok (.getfield 25, 3) := by decide +kernel
theorem dX6_add_38 : decode cX6_add 38 = .ok (.aload_n 0, 1) := by decide +kernel
theorem dX6_add_39 : decode cX6_add 39 = .ok (.getfield 9, 3) := by decide +kernel
theorem dX6_add_42 : decode cX6_add 42 = .ok (.iload_n 2, 1) := by decide +kernel
theorem dX6_add_43 : decode cX6_add 43 = .ok (.iastore, 1) := by decide +kernel
theorem dX6_add_44 : decode cX6_add 44 = .ok (.aload_n 0, 1) := by decide +kernel
theorem dX6_add_45 : decode cX6_add 45 = .ok (.dup, 1) := by decide +kernel
theorem dX6_add_46 : decode cX6_add 46 = .ok (.getfield 9, 3) := by decide +kernel
theorem dX6_add_49 : decode cX6_add 49 = .ok (.iconst 1, 1) := by decide +kernel
theorem dX6_add_50 : decode cX6_add 50 = .ok (.iadd, 1) := by decide +kernel
theorem dX6_add_51 : decode cX6_add 51 = .ok (.putfield 9, 3) := by decide +kernel
theorem dX6_add_54 : decode cX6_add 54 = .ok (.return_, 1) := by decide +kernel
theorem dX6_dropLast_0 : decode cX6_dropLast 0 = .ok (.aload_n 0, 1) := by decide +kernel
theorem dX6_dropLast_1 : decode cX6_dropLast 1 = .ok (.getfield 9, 3) := by decide +kernel
theorem dX6_dropLast_4 : decode cX6_dropLast 4 = .ok (.ifCond .le 13, 3) := by decide +kernel
theorem dX6_dropLast_7 : decode cX6_dropLast 7 = .ok (.aload_n 0, 1) := by decide +kernel
theorem dX6_dropLast_8 : decode cX6_dropLast 8 = .ok (.dup, 1) := by decide +kernel
theorem dX6_dropLast_9 : decode cX6_dropLast 9 = .ok (.getfield 9, 3) := by decide +kernel
theorem dX6_dropLast_12 : decode cX6_dropLast 12 = .ok (.iconst 1, 1) := by decide +kernel
theorem dX6_dropLast_13 : decode cX6_dropLast 13 = .ok (.isub, 1) := by decide +kernel
theorem dX6_dropLast_14 : decode cX6_dropLast 14 = .ok (.putfield 9, 3) := by decide +kernel
theorem dX6_dropLast_17 : decode cX6_dropLast 17 = .ok (.return_, 1) := by decide +kernel
theorem dX6_holding_0 : decode cX6_holding 0 = .ok (.iconst (-1), 1) := by decide +kernel
theorem dX6_holding_1 : decode cX6_holding 1 = .ok (.istore_n 3, 1) := by decide +kernel
theorem dX6_holding_2 : decode cX6_holding 2 = .ok (.iconst 0, 1) := by decide +kernel
theorem dX6_holding_3 : decode cX6_holding 3 = .ok (.istore 4, 2) := by decide +kernel
theorem dX6_holding_5 : decode cX6_holding 5 = .ok (.iconst 0, 1) := by decide +kernel
theorem dX6_holding_6 : decode cX6_holding 6 = .ok (.istore 5, 2) := by decide +kernel
theorem dX6_holding_8 : decode cX6_holding 8 = .ok (.iload 5, 2) := by decide +kernel
theorem dX6_holding_10 : decode cX6_holding 10 = .ok (.aload_n 0, 1) := by decide +kernel
theorem dX6_holding_11 : decode cX6_holding 11 = .ok (.getfield 9, 3) := by decide +kernel
theorem dX6_holding_14 : decode cX6_holding 14 = .ok (.if_icmp .ge 55, 3) := by decide +kernel
theorem dX6_holding_17 : decode cX6_holding 17 = .ok (.aload_n 0, 1) := by decide +kernel
theorem dX6_holding_18 : decode cX6_holding 18 = .ok (.getfield 21, 3) := by decide +kernel
theorem dX6_holding_21 : decode cX6_holding 21 = .ok (.iload 5, 2) := by decide +kernel
theorem dX6_holding_23 : decode cX6_holding 23 = .ok (.iaload, 1) := by decide +kernel
theorem dX6_holding_24 : decode cX6_holding 24 = .ok (.iload_n 1, 1) := by decide +kernel
theorem dX6_holding_25 : decode cX6_holding 25 = .ok (.if_icmp .ne 38, 3) := by decide +kernel
theorem dX6_holding_28 : decode cX6_holding 28 = .ok (.aload_n 0, 1) := by decide +kernel
theorem dX6_holding_29 : decode cX6_holding 29 = .ok (.getfield 25, 3) := by decide +kernel
theorem dX6_holding_32 : decode cX6_holding 32 = .ok (.iload 5, 2) := by decide +kernel
theorem dX6_holding_34 : decode cX6_holding 34 = .ok (.iaload, 1) := by decide +kernel
theorem dX6_holding_35 : decode cX6_holding 35 = .ok (.iload_n 2, 1) := by decide +kernel
theorem dX6_holding_36 : decode cX6_holding 36 = .ok (.if_icmp .gt 27, 3) := by decide +kernel
theorem dX6_holding_39 : decode cX6_holding 39 = .ok (.aload_n 0, 1) := by decide +kernel
theorem dX6_holding_40 : decode cX6_holding 40 = .ok (.getfield 25, 3) := by decide +kernel
theorem dX6_holding_43 : decode cX6_holding 43 = .ok (.iload 5, 2) := by decide +kernel
theorem dX6_holding_45 : decode cX6_holding 45 = .ok (.iaload, 1) := by decide +kernel
theorem dX6_holding_46 : decode cX6_holding 46 = .ok (.iload 4, 2) := by decide +kernel
theorem dX6_holding_48 : decode cX6_holding 48 = .ok (.if_icmp .lt 15, 3) := by decide +kernel
theorem dX6_holding_51 : decode cX6_holding 51 = .ok (.iload 5, 2) := by decide +kernel
theorem dX6_holding_53 : decode cX6_holding 53 = .ok (.istore_n 3, 1) := by decide +kernel
theorem dX6_holding_54 : decode cX6_holding 54 = .ok (.aload_n 0, 1) := by decide +kernel
theorem dX6_holding_55 : decode cX6_holding 55 = .ok (.getfield 25, 3) := by decide +kernel
theorem dX6_holding_58 : decode cX6_holding 58 = .ok (.iload 5, 2) := by decide +kernel
theorem dX6_holding_60 : decode cX6_holding 60 = .ok (.iaload, 1) := by decide +kernel
theorem dX6_holding_61 : decode cX6_holding 61 = .ok (.istore 4, 2) := by decide +kernel
theorem dX6_holding_63 : decode cX6_holding 63 = .ok (.iinc 5 1, 3) := by decide +kernel
theorem dX6_holding_66 : decode cX6_holding 66 = .ok (.goto (-58), 3) := by decide +kernel
theorem dX6_holding_69 : decode cX6_holding 69 = .ok (.iload_n 3, 1) := by decide +kernel
theorem dX6_holding_70 : decode cX6_holding 70 = .ok (.ireturn, 1) := by decide +kernel
theorem dX6_nextDay_0 : decode cX6_nextDay 0 = .ok (.sipush 400, 3) := by decide +kernel
theorem dX6_nextDay_3 : decode cX6_nextDay 3 = .ok (.istore_n 3, 1) := by decide +kernel
theorem dX6_nextDay_4 : decode cX6_nextDay 4 = .ok (.iconst 0, 1) := by decide +kernel
theorem dX6_nextDay_5 : decode cX6_nextDay 5 = .ok (.istore 4, 2) := by decide +kernel
theorem dX6_nextDay_7 : decode cX6_nextDay 7 = .ok (.iload 4, 2) := by decide +kernel
theorem dX6_nextDay_9 : decode cX6_nextDay 9 = .ok (.aload_n 0, 1) := by decide +kernel
theorem dX6_nextDay_10 : decode cX6_nextDay 10 = .ok (.getfield 9, 3) := by decide +kernel
theorem dX6_nextDay_13 : decode cX6_nextDay 13 = .ok (.if_icmp .ge 50, 3) := by decide +kernel
theorem dX6_nextDay_16 : decode cX6_nextDay 16 = .ok (.aload_n 0, 1) := by decide +kernel
theorem dX6_nextDay_17 : decode cX6_nextDay 17 = .ok (.getfield 21, 3) := by decide +kernel
theorem dX6_nextDay_20 : decode cX6_nextDay 20 = .ok (.iload 4, 2) := by decide +kernel
theorem dX6_nextDay_22 : decode cX6_nextDay 22 = .ok (.iaload, 1) := by decide +kernel
theorem dX6_nextDay_23 : decode cX6_nextDay 23 = .ok (.iload_n 1, 1) := by decide +kernel
theorem dX6_nextDay_24 : decode cX6_nextDay 24 = .ok (.if_icmp .ne 33, 3) := by decide +kernel
theorem dX6_nextDay_27 : decode cX6_nextDay 27 = .ok (.aload_n 0, 1) := by decide +kernel
theorem dX6_nextDay_28 : decode cX6_nextDay 28 = .ok (.getfield 25, 3) := by decide +kernel
theorem dX6_nextDay_31 : decode cX6_nextDay 31 = .ok (.iload 4, 2) := by decide +kernel
theorem dX6_nextDay_33 : decode cX6_nextDay 33 = .ok (.iaload, 1) := by decide +kernel
theorem dX6_nextDay_34 : decode cX6_nextDay 34 = .ok (.iload_n 2, 1) := by decide +kernel
theorem dX6_nextDay_35 : decode cX6_nextDay 35 = .ok (.if_icmp .le 22, 3) := by decide +kernel
theorem dX6_nextDay_38 : decode cX6_nextDay 38 = .ok (.aload_n 0, 1) := by decide +kernel
theorem dX6_nextDay_39 : decode cX6_nextDay 39 = .ok (.getfield 25, 3) := by decide +kernel
theorem dX6_nextDay_42 : decode cX6_nextDay 42 = .ok (.iload 4, 2) := by decide +kernel
theorem dX6_nextDay_44 : decode cX6_nextDay 44 = .ok (.iaload, 1) := by decide +kernel
theorem dX6_nextDay_45 : decode cX6_nextDay 45 = .ok (.iload_n 3, 1) := by decide +kernel
theorem dX6_nextDay_46 : decode cX6_nextDay 46 = .ok (.if_icmp .ge 11, 3) := by decide +kernel
theorem dX6_nextDay_49 : decode cX6_nextDay 49 = .ok (.aload_n 0, 1) := by decide +kernel
theorem dX6_nextDay_50 : decode cX6_nextDay 50 = .ok (.getfield 25, 3) := by decide +kernel
theorem dX6_nextDay_53 : decode cX6_nextDay 53 = .ok (.iload 4, 2) := by decide +kernel
theorem dX6_nextDay_55 : decode cX6_nextDay 55 = .ok (.iaload, 1) := by decide +kernel
theorem dX6_nextDay_56 : decode cX6_nextDay 56 = .ok (.istore_n 3, 1) := by decide +kernel
theorem dX6_nextDay_57 : decode cX6_nextDay 57 = .ok (.iinc 4 1, 3) := by decide +kernel
theorem dX6_nextDay_60 : decode cX6_nextDay 60 = .ok (.goto (-53), 3) := by decide +kernel
theorem dX6_nextDay_63 : decode cX6_nextDay 63 = .ok (.iload_n 3, 1) := by decide +kernel
theorem dX6_nextDay_64 : decode cX6_nextDay 64 = .ok (.ireturn, 1) := by decide +kernel
theorem dX6_nextDayOfAny_0 : decode cX6_nextDayOfAny 0 = .ok (.sipush 400, 3) := by decide +kernel
theorem dX6_nextDayOfAny_3 : decode cX6_nextDayOfAny 3 = .ok (.istore_n 2, 1) := by decide +kernel
theorem dX6_nextDayOfAny_4 : decode cX6_nextDayOfAny 4 = .ok (.iconst 0, 1) := by decide +kernel
theorem dX6_nextDayOfAny_5 : decode cX6_nextDayOfAny 5 = .ok (.istore_n 3, 1) := by decide +kernel
theorem dX6_nextDayOfAny_6 : decode cX6_nextDayOfAny 6 = .ok (.iload_n 3, 1) := by decide +kernel
theorem dX6_nextDayOfAny_7 : decode cX6_nextDayOfAny 7 = .ok (.aload_n 0, 1) := by decide +kernel
theorem dX6_nextDayOfAny_8 : decode cX6_nextDayOfAny 8 = .ok (.getfield 9, 3) := by decide +kernel
theorem dX6_nextDayOfAny_11 : decode cX6_nextDayOfAny 11 = .ok (.if_icmp .ge 36, 3) := by decide +kernel
theorem dX6_nextDayOfAny_14 : decode cX6_nextDayOfAny 14 = .ok (.aload_n 0, 1) := by decide +kernel
theorem dX6_nextDayOfAny_15 : decode cX6_nextDayOfAny 15 = .ok (.getfield 25, 3) := by decide +kernel
theorem dX6_nextDayOfAny_18 : decode cX6_nextDayOfAny 18 = .ok (.iload_n 3, 1) := by decide +kernel
theorem dX6_nextDayOfAny_19 : decode cX6_nextDayOfAny 19 = .ok (.iaload, 1) := by decide +kernel
theorem dX6_nextDayOfAny_20 : decode cX6_nextDayOfAny 20 = .ok (.iload_n 1, 1) := by decide +kernel
theorem dX6_nextDayOfAny_21 : decode cX6_nextDayOfAny 21 = .ok (.if_icmp .le 20, 3) := by decide +kernel
theorem dX6_nextDayOfAny_24 : decode cX6_nextDayOfAny 24 = .ok (.aload_n 0, 1) := by decide +kernel
theorem dX6_nextDayOfAny_25 : decode cX6_nextDayOfAny 25 = .ok (.getfield 25, 3) := by decide +kernel
theorem dX6_nextDayOfAny_28 : decode cX6_nextDayOfAny 28 = .ok (.iload_n 3, 1) := by decide +kernel
theorem dX6_nextDayOfAny_29 : decode cX6_nextDayOfAny 29 = .ok (.iaload, 1) := by decide +kernel
theorem dX6_nextDayOfAny_30 : decode cX6_nextDayOfAny 30 = .ok (.iload_n 2, 1) := by decide +kernel
theorem dX6_nextDayOfAny_31 : decode cX6_nextDayOfAny 31 = .ok (.if_icmp .ge 10, 3) := by decide +kernel
theorem dX6_nextDayOfAny_34 : decode cX6_nextDayOfAny 34 = .ok (.aload_n 0, 1) := by decide +kernel
theorem dX6_nextDayOfAny_35 : decode cX6_nextDayOfAny 35 = .ok (.getfield 25, 3) := by decide +kernel
theorem dX6_nextDayOfAny_38 : decode cX6_nextDayOfAny 38 = .ok (.iload_n 3, 1) := by decide +kernel
theorem dX6_nextDayOfAny_39 : decode cX6_nextDayOfAny 39 = .ok (.iaload, 1) := by decide +kernel
theorem dX6_nextDayOfAny_40 : decode cX6_nextDayOfAny 40 = .ok (.istore_n 2, 1) := by decide +kernel
theorem dX6_nextDayOfAny_41 : decode cX6_nextDayOfAny 41 = .ok (.iinc 3 1, 3) := by decide +kernel
theorem dX6_nextDayOfAny_44 : decode cX6_nextDayOfAny 44 = .ok (.goto (-38), 3) := by decide +kernel
theorem dX6_nextDayOfAny_47 : decode cX6_nextDayOfAny 47 = .ok (.iload_n 2, 1) := by decide +kernel
theorem dX6_nextDayOfAny_48 : decode cX6_nextDayOfAny 48 = .ok (.ireturn, 1) := by decide +kernel
theorem dX7_init_0 : decode cX7_init 0 = .ok (.aload_n 0, 1) := by decide +kernel
theorem dX7_init_1 : decode cX7_init 1 = .ok (.invokespecial 3, 3) := by decide +kernel
theorem dX7_init_4 : decode cX7_init 4 = .ok (.aload_n 0, 1) := by decide +kernel
theorem dX7_init_5 : decode cX7_init 5 = .ok (.bipush 100, 2) := by decide +kernel
theorem dX7_init_7 : decode cX7_init 7 = .ok (.newarray .int, 2) := by decide +kernel
theorem dX7_init_9 : decode cX7_init 9 = .ok (.putfield 9, 3) := by decide +kernel
theorem dX7_init_12 : decode cX7_init 12 = .ok (.aload_n 0, 1) := by decide +kernel
theorem dX7_init_13 : decode cX7_init 13 = .ok (.iconst 0, 1) := by decide +kernel
theorem dX7_init_14 : decode cX7_init 14 = .ok (.putfield 15, 3) := by decide +kernel
theorem dX7_init_17 : decode cX7_init 17 = .ok (.return_, 1) := by decide +kernel
theorem dX7_addFour_0 : decode cX7_addFour 0 = .ok (.aload_n 0, 1) := by decide +kernel
theorem dX7_addFour_1 : decode cX7_addFour 1 = .ok (.getfield 15, 3) := by decide +kernel
theorem dX7_addFour_4 : decode cX7_addFour 4 = .ok (.iconst 4, 1) := by decide +kernel
theorem dX7_addFour_5 : decode cX7_addFour 5 = .ok (.iadd, 1) := by decide +kernel
theorem dX7_addFour_6 : decode cX7_addFour 6 = .ok (.bipush 100, 2) := by decide +kernel
theorem dX7_addFour_8 : decode cX7_addFour 8 = .ok (.if_icmp .le 5, 3) := by decide +kernel
theorem dX7_addFour_11 : decode cX7_addFour 11 = .ok (.iconst (-1), 1) := by decide +kernel
theorem dX7_addFour_12 : decode cX7_addFour 12 = .ok (.ireturn, 1) := by decide +kernel
theorem dX7_addFour_13 : decode cX7_addFour 13 = .ok (.bipush 24, 2) := by decide +kernel
theorem dX7_addFour_15 : decode cX7_addFour 15 = .ok (.istore_n 2, 1) := by decide +kernel
theorem dX7_addFour_16 : decode cX7_addFour 16 = .ok (.iload_n 2, 1) := by decide +kernel
theorem dX7_addFour_17 : decode cX7_addFour 17 = .ok (.ifCond .lt 35, 3) := by decide +kernel
theorem dX7_addFour_20 : decode cX7_addFour 20 = .ok (.aload_n 0, 1) := by decide +kernel
theorem dX7_addFour_21 : decode cX7_addFour 21 = .ok (.getfield 9, 3) := by decide +kernel
theorem dX7_addFour_24 : decode cX7_addFour 24 = .ok (.aload_n 0, 1) := by decide +kernel
theorem dX7_addFour_25 : decode cX7_addFour 25 = .ok (.getfield 15, 3) := by decide +kernel
theorem dX7_addFour_28 : decode cX7_addFour 28 = .ok (.iload_n 1, 1) := by decide +kernel
theorem dX7_addFour_29 : decode cX7_addFour 29 = .ok (.iload_n 2, 1) := by decide +kernel
theorem dX7_addFour_30 : decode cX7_addFour 30 = .ok (.iushr, 1) := by decide +kernel
theorem dX7_addFour_31 : decode cX7_addFour 31 = .ok (.sipush 255, 3) := by decide +kernel
theorem dX7_addFour_34 : decode cX7_addFour 34 = .ok (.iand, 1) := by decide +kernel
theorem dX7_addFour_35 : decode cX7_addFour 35 = .ok (.iastore, 1) := by decide +kernel
theorem dX7_addFour_36 : decode cX7_addFour 36 = .ok (.aload_n 0, 1) := by decide +kernel
theorem dX7_addFour_37 : decode cX7_addFour 37 = .ok (.dup, 1) := by decide +kernel
theorem dX7_addFour_38 : decode cX7_addFour 38 = .ok (.getfield 15, 3) := by decide +kernel
theorem dX7_addFour_41 : decode cX7_addFour 41 = .ok (.iconst 1, 1) := by decide +kernel
theorem dX7_addFour_42 : decode cX7_addFour 42 = .ok (.iadd, 1) := by decide +kernel
theorem dX7_addFour_43 : decode cX7_addFour 43 = .ok (.putfield 15, 3) := by decide +kernel
theorem dX7_addFour_46 : decode cX7_addFour 46 = .ok (.iinc 2 (-8), 3) := by decide +kernel
theorem dX7_addFour_49 : decode cX7_addFour 49 = .ok (.goto (-33), 3) := by decide +kernel
theorem dX7_addFour_52 : decode cX7_addFour 52 = .ok (.aload_n 0, 1) := by decide +kernel
theorem dX7_addFour_53 : decode cX7_addFour 53 = .ok (.getfield 15, 3) := by decide +kernel
theorem dX7_addFour_56 : decode cX7_addFour 56 = .ok (.ireturn, 1) := by decide +kernel
theorem dX7_cut_0 : decode cX7_cut 0 = .ok (.iload_n 1, 1) := by decide +kernel
theorem dX7_cut_1 : decode cX7_cut 1 = .ok (.ifCond .lt 11, 3) := by decide +kernel
theorem dX7_cut_4 : decode cX7_cut 4 = .ok (.iload_n 1, 1) := by decide +kernel
theorem dX7_cut_5 : decode cX7_cut 5 = .ok (.aload_n 0, 1) := by decide +kernel
theorem dX7_cut_6 : decode cX7_cut 6 = .ok (.getfield 15, 3) := by decide +kernel
theorem dX7_cut_9 : decode cX7_cut 9 = .ok (.if_icmp .le 5, 3) := by decide +kernel
theorem dX7_cut_12 : decode cX7_cut 12 = .ok (.iconst 0, 1) := by decide +kernel
theorem dX7_cut_13 : decode cX7_cut 13 = .ok (.ireturn, 1) := by decide +kernel
theorem dX7_cut_14 : decode cX7_cut 14 = .ok (.aload_n 0, 1) := by decide +kernel
theorem dX7_cut_15 : decode cX7_cut 15 = .ok (.iload_n 1, 1) := by decide +kernel
theorem dX7_cut_16 : decode cX7_cut 16 = .ok (.putfield 15, 3) := by decide +kernel
theorem dX7_cut_19 : decode cX7_cut 19 = .ok (.iconst 1, 1) := by decide +kernel
theorem dX7_cut_20 : decode cX7_cut 20 = .ok (.ireturn, 1) := by decide +kernel
theorem dX7_clear_0 : decode cX7_clear 0 = .ok (.aload_n 0, 1) := by decide +kernel
theorem dX7_clear_1 : decode cX7_clear 1 = .ok (.iconst 0, 1) := by decide +kernel
theorem dX7_clear_2 : decode cX7_clear 2 = .ok (.putfield 15, 3) := by decide +kernel
theorem dX7_clear_5 : decode cX7_clear 5 = .ok (.return_, 1) := by decide +kernel
theorem dX7_signAt_0 : decode cX7_signAt 0 = .ok (.iload_n 1, 1) := by decide +kernel
theorem dX7_signAt_1 : decode cX7_signAt 1 = .ok (.ifCond .lt 20, 3) := by decide +kernel
theorem dX7_signAt_4 : decode cX7_signAt 4 = .ok (.iload_n 1, 1) := by decide +kernel
theorem dX7_signAt_5 : decode cX7_signAt 5 = .ok (.aload_n 0, 1) := by decide +kernel
theorem dX7_signAt_6 : decode cX7_signAt 6 = .ok (.getfield 15, 3) := by decide +kernel
theorem dX7_signAt_9 : decode cX7_signAt 9 = .ok (.if_icmp .ge 12, 3) := by decide +kernel
theorem dX7_signAt_12 : decode cX7_signAt 12 = .ok (.aload_n 0, 1) := by decide +kernel
theorem dX7_signAt_13 : decode cX7_signAt 13 = .ok (.getfield 9, 3) := by decide +kernel
theorem dX7_signAt_16 : decode cX7_signAt 16 = .ok (.iload_n 1, 1) := by decide +kernel
theorem dX7_signAt_17 : decode cX7_signAt 17 = .ok (.iaload, 1) := by decide +kernel
theorem dX7_signAt_18 : decode cX7_signAt 18 = .ok (.goto 4, 3) := by decide +kernel
theorem dX7_signAt_21 : decode cX7_signAt 21 = .ok (.iconst (-1), 1) := by decide +kernel
theorem dX7_signAt_22 : decode cX7_signAt 22 = .ok (.ireturn, 1) := by decide +kernel
theorem dX8_init_0 : decode cX8_init 0 = .ok (.aload_n 0, 1) := by decide +kernel
theorem dX8_init_1 : decode cX8_init 1 = .ok (.invokespecial 3, 3) := by decide +kernel
theorem dX8_init_4 : decode cX8_init 4 = .ok (.aload_n 0, 1) := by decide +kernel
theorem dX8_init_5 : decode cX8_init 5 = .ok (.iconst 0, 1) := by decide +kernel
theorem dX8_init_6 : decode cX8_init 6 = .ok (.putfield 9, 3) := by decide +kernel
theorem dX8_init_9 : decode cX8_init 9 = .ok (.aload_n 0, 1) := by decide +kernel
theorem dX8_init_10 : decode cX8_init 10 = .ok (.bipush 7, 2) := by decide +kernel
theorem dX8_init_12 : decode cX8_init 12 = .ok (.newarray .int, 2) := by decide +kernel
theorem dX8_init_14 : decode cX8_init 14 = .ok (.putfield 15, 3) := by decide +kernel
theorem dX8_init_17 : decode cX8_init 17 = .ok (.aload_n 0, 1) := by decide +kernel
theorem dX8_init_18 : decode cX8_init 18 = .ok (.bipush 7, 2) := by decide +kernel
theorem dX8_init_20 : decode cX8_init 20 = .ok (.newarray .int, 2) := by decide +kernel
theorem dX8_init_22 : decode cX8_init 22 = .ok (.putfield 19, 3) := by decide +kernel
theorem dX8_init_25 : decode cX8_init 25 = .ok (.aload_n 0, 1) := by decide +kernel
theorem dX8_init_26 : decode cX8_init 26 = .ok (.bipush 7, 2) := by decide +kernel
theorem dX8_init_28 : decode cX8_init 28 = .ok (.newarray .int, 2) := by decide +kernel
theorem dX8_init_30 : decode cX8_init 30 = .ok (.putfield 22, 3) := by decide +kernel
theorem dX8_init_33 : decode cX8_init 33 = .ok (.return_, 1) := by decide +kernel
theorem dX8_has_0 : decode cX8_has 0 = .ok (.iload_n 1, 1) := by decide +kernel
theorem dX8_has_1 : decode cX8_has 1 = .ok (.ifCond .lt 15, 3) := by decide +kernel
theorem dX8_has_4 : decode cX8_has 4 = .ok (.iload_n 1, 1) := by decide +kernel
theorem dX8_has_5 : decode cX8_has 5 = .ok (.aload_n 0, 1) := by decide +kernel
theorem dX8_has_6 : decode cX8_has 6 = .ok (.getfield 9, 3) := by decide +kernel
theorem dX8_has_9 : decode cX8_has 9 = .ok (.if_icmp .ge 7, 3) := by decide +kernel
theorem dX8_has_12 : decode cX8_has 12 = .ok (.iconst 1, 1) := by decide +kernel
theorem dX8_has_13 : decode cX8_has 13 = .ok (.goto 4, 3) := by decide +kernel
theorem dX8_has_16 : decode cX8_has 16 = .ok (.iconst 0, 1) := by decide +kernel
theorem dX8_has_17 : decode cX8_has 17 = .ok (.ireturn, 1) := by decide +kernel
theorem dX8_build_0 : decode cX8_build 0 = .ok (.aload_n 0, 1) := by decide +kernel
theorem dX8_build_1 : decode cX8_build 1 = .ok (.getfield 9, 3) := by decide +kernel
theorem dX8_build_4 : decode cX8_build 4 = .ok (.bipush 7, 2) := by decide +kernel
theorem dX8_build_6 : decode cX8_build 6 = .ok (.if_icmp .lt 5, 3) := by decide +kernel
theorem dX8_build_9 : decode cX8_build 9 = .ok (.iconst (-1), 1) := by decide +kernel
theorem dX8_build_10 : decode cX8_build 10 = .ok (.ireturn, 1) := by decide +kernel
theorem dX8_build_11 : decode cX8_build 11 = .ok (.aload_n 0, 1) := by decide +kernel
theorem dX8_build_12 : decode cX8_build 12 = .ok (.getfield 15, 3) := by decide +kernel
theorem dX8_build_15 : decode cX8_build 15 = .ok (.aload_n 0, 1) := by decide +kernel
theorem dX8_build_16 : decode cX8_build 16 = .ok (.getfield 9, 3) := by decide +kernel
theorem dX8_build_19 : decode cX8_build 19 = .ok (.iload_n 1, 1) := by decide +kernel
theorem dX8_build_20 : decode cX8_build 20 = .ok (.iastore, 1) := by decide +kernel
theorem dX8_build_21 : decode cX8_build 21 = .ok (.aload_n 0, 1) := by decide +kernel
theorem dX8_build_22 : decode cX8_build 22 = .ok (.getfield 19, 3) := by decide +kernel
theorem dX8_build_25 : decode cX8_build 25 = .ok (.aload_n 0, 1) := by decide +kernel
theorem dX8_build_26 : decode cX8_build 26 = .ok (.getfield 9, 3) := by decide +kernel
theorem dX8_build_29 : decode cX8_build 29 = .ok (.iload_n 2, 1) := by decide +kernel
theorem dX8_build_30 : decode cX8_build 30 = .ok (.iastore, 1) := by decide +kernel
theorem dX8_build_31 : decode cX8_build 31 = .ok (.aload_n 0, 1) := by decide +kernel
theorem dX8_build_32 : decode cX8_build 32 = .ok (.getfield 22, 3) := by decide +kernel
theorem dX8_build_35 : decode cX8_build 35 = .ok (.aload_n 0, 1) := by decide +kernel
theorem dX8_build_36 : decode cX8_build 36 = .ok (.getfield 9, 3) := by decide +kernel
theorem dX8_build_39 : decode cX8_build 39 = .ok (.iload_n 3, 1) := by decide +kernel
theorem dX8_build_40 : decode cX8_build 40 = .ok (.iastore, 1) := by decide +kernel
theorem dX8_build_41 : decode cX8_build 41 = .ok (.aload_n 0, 1) := by decide +kernel
theorem dX8_build_42 : decode cX8_build 42 = .ok (.dup, 1) := by decide +kernel
theorem dX8_build_43 : decode cX8_build 43 = .ok (.getfield 9, 3) := by decide +kernel
theorem dX8_build_46 : decode cX8_build 46 = .ok (.iconst 1, 1) := by decide +kernel
theorem dX8_build_47 : decode cX8_build 47 = .ok (.iadd, 1) := by decide +kernel
theorem dX8_build_48 : decode cX8_build 48 = .ok (.putfield 9, 3) := by decide +kernel
theorem dX8_build_51 : decode cX8_build 51 = .ok (.aload_n 0, 1) := by decide +kernel
theorem dX8_build_52 : decode cX8_build 52 = .ok (.getfield 9, 3) := by decide +kernel
theorem dX8_build_55 : decode cX8_build 55 = .ok (.iconst 1, 1) := by decide +kernel
theorem dX8_build_56 : decode cX8_build 56 = .ok (.isub, 1) := by decide +kernel
theorem dX8_build_57 : decode cX8_build 57 = .ok (.ireturn, 1) := by decide +kernel
set_option maxRecDepth 20000 in
theorem ggX8_isSetBy_X8_has : GoodIn wsX8_isSetBy wsX8_has := goodIn_r _ [6, 7, 8, 9, 10, 11] (by decide +kernel) (by decide +kernel)
set_option maxRecDepth 20000 in
theorem gX8_isSetBy_X8_has : GoodIn wsX8_isSetBy (wsV RX8 25 RX8 yX8_has wsX8_has) := goodIn_app (goodIn_of _ (by decide +kernel)) ggX8_isSetBy_X8_has
theorem dX8_isSetBy_0 : decode cX8_isSetBy 0 = .ok (.aload_n 0, 1) := by decide +kernel
theorem dX8_isSetBy_1 : decode cX8_isSetBy 1 = .ok (.iload_n 1, 1) := by decide +kernel
theorem dX8_isSetBy_2 : decode cX8_isSetBy 2 = .ok (.invokevirtual 25, 3) := by decide +kernel
theorem dX8_isSetBy_5 : decode cX8_isSetBy 5 = .ok (.ifCond .eq 17, 3) := by decide +kernel
theorem dX8_isSetBy_8 : decode cX8_isSetBy 8 = .ok (.aload_n 0, 1) := by decide +kernel
theorem dX8_isSetBy_9 : decode cX8_isSetBy 9 = .ok (.getfield 19, 3) := by decide +kernel
theorem dX8_isSetBy_12 : decode cX8_isSetBy 12 = .ok (.iload_n 1, 1) := by decide +kernel
theorem dX8_isSetBy_13 : decode cX8_isSetBy 13 = .ok (.iaload, 1) := by decide +kernel
theorem dX8_isSetBy_14 : decode cX8_isSetBy 14 = .ok (.iload_n 2, 1) := by decide +kernel
theorem dX8_isSetBy_15 : decode cX8_isSetBy 15 = .ok (.if_icmp .gt 7, 3) := by decide +kernel
theorem dX8_isSetBy_18 : decode cX8_isSetBy 18 = .ok (.iconst 1, 1) := by decide +kernel
theorem dX8_isSetBy_19 : decode cX8_isSetBy 19 = .ok (.goto 4, 3) := by decide +kernel
theorem dX8_isSetBy_22 : decode cX8_isSetBy 22 = .ok (.iconst 0, 1) := by decide +kernel
theorem dX8_isSetBy_23 : decode cX8_isSetBy 23 = .ok (.ireturn, 1) := by decide +kernel
theorem dX8_areAllSetBy_0 : decode cX8_areAllSetBy 0 = .ok (.iconst 0, 1) := by decide +kernel
theorem dX8_areAllSetBy_1 : decode cX8_areAllSetBy 1 = .ok (.istore_n 2, 1) := by decide +kernel
theorem dX8_areAllSetBy_2 : decode cX8_areAllSetBy 2 = .ok (.iload_n 2, 1) := by decide +kernel
theorem dX8_areAllSetBy_3 : decode cX8_areAllSetBy 3 = .ok (.aload_n 0, 1) := by decide +kernel
theorem dX8_areAllSetBy_4 : decode cX8_areAllSetBy 4 = .ok (.getfield 9, 3) := by decide +kernel
theorem dX8_areAllSetBy_7 : decode cX8_areAllSetBy 7 = .ok (.if_icmp .ge 21, 3) := by decide +kernel
theorem dX8_areAllSetBy_10 : decode cX8_areAllSetBy 10 = .ok (.aload_n 0, 1) := by decide +kernel
theorem dX8_areAllSetBy_11 : decode cX8_areAllSetBy 11 = .ok (.getfield 19, 3) := by decide +kernel
theorem dX8_areAllSetBy_14 : decode cX8_areAllSetBy 14 = .ok (.iload_n 2, 1) := by decide +kernel
theorem dX8_areAllSetBy_15 : decode cX8_areAllSetBy 15 = .ok (.iaload, 1) := by decide +kernel
theorem dX8_areAllSetBy_16 : decode cX8_areAllSetBy 16 = .ok (.iload_n 1, 1) := by decide +kernel
theorem dX8_areAllSetBy_17 : decode cX8_areAllSetBy 17 = .ok (.if_icmp .le 5, 3) := by decide +kernel
theorem dX8_areAllSetBy_20 : decode cX8_areAllSetBy 20 = .ok (.iconst 0, 1) := by decide +kernel
theorem dX8_areAllSetBy_21 : decode cX8_areAllSetBy 21 = .ok (.ireturn, 1) := by decide +kernel
theorem dX8_areAllSetBy_22 : decode cX8_areAllSetBy 22 = .ok (.iinc 2 1, 3) := by decide +kernel
theorem dX8_areAllSetBy_25 : decode cX8_areAllSetBy 25 = .ok (.goto (-23), 3) := by decide +kernel
theorem dX8_areAllSetBy_28 : decode cX8_areAllSetBy 28 = .ok (.iconst 1, 1) := by decide +kernel
theorem dX8_areAllSetBy_29 : decode cX8_areAllSetBy 29 = .ok (.ireturn, 1) := by decide +kernel
set_option maxRecDepth 20000 in
theorem ggX8_sunOf_X8_has : GoodIn wsX8_sunOf wsX8_has := goodIn_r _ [6, 7, 8, 9, 10, 11] (by decide +kernel) (by decide +kernel)
set_option maxRecDepth 20000 in
theorem gX8_sunOf_X8_has : GoodIn wsX8_sunOf (wsV RX8 25 RX8 yX8_has wsX8_has) := goodIn_app (goodIn_of _ (by decide +kernel)) ggX8_sunOf_X8_has
theorem dX8_sunOf_0 : decode cX8_sunOf 0 = .ok (.aload_n 0, 1) := by decide +kernel
theorem dX8_sunOf_1 : decode cX8_sunOf 1 = .ok (.iload_n 1, 1) := by decide +kernel
theorem dX8_sunOf_2 : decode cX8_sunOf 2 = .ok (.invokevirtual 25, 3) := by decide +kernel
theorem dX8_sunOf_5 : decode cX8_sunOf 5 = .ok (.ifCond .eq 12, 3) := by decide +kernel
theorem dX8_sunOf_8 : decode cX8_sunOf 8 = .ok (.aload_n 0, 1) := by decide +kernel
theorem dX8_sunOf_9 : decode cX8_sunOf 9 = .ok (.getfield 15, 3) := by decide +kernel
theorem dX8_sunOf_12 : decode cX8_sunOf 12 = .ok (.iload_n 1, 1) := by decide +kernel
theorem dX8_sunOf_13 : decode cX8_sunOf 13 = .ok (.iaload, 1) := by decide +kernel
theorem dX8_sunOf_14 : decode cX8_sunOf 14 = .ok (.goto 4, 3) := by decide +kernel
theorem dX8_sunOf_17 : decode cX8_sunOf 17 = .ok (.iconst 0, 1) := by decide +kernel
theorem dX8_sunOf_18 : decode cX8_sunOf 18 = .ok (.ireturn, 1) := by decide +kernel
set_option maxRecDepth 20000 in
theorem ggX8_errorAt_X8_has : GoodIn wsX8_errorAt wsX8_has := goodIn_r _ [7, 8, 9, 10, 11, 12] (by decide +kernel) (by decide +kernel)
set_option maxRecDepth 20000 in
theorem gX8_errorAt_X8_has : GoodIn wsX8_errorAt (wsV RX8 25 RX8 yX8_has wsX8_has) := goodIn_app (goodIn_of _ (by decide +kernel)) ggX8_errorAt_X8_has
theorem dX8_errorAt_0 : decode cX8_errorAt 0 = .ok (.aload_n 0, 1) := by decide +kernel
theorem dX8_errorAt_1 : decode cX8_errorAt 1 = .ok (.iload_n 1, 1) := by decide +kernel
theorem dX8_errorAt_2 : decode cX8_errorAt 2 = .ok (.invokevirtual 25, 3) := by decide +kernel
theorem dX8_errorAt_5 : decode cX8_errorAt 5 = .ok (.ifCond .eq 25, 3) := by decide +kernel
theorem dX8_errorAt_8 : decode cX8_errorAt 8 = .ok (.aload_n 0, 1) := by decide +kernel
theorem dX8_errorAt_9 : decode cX8_errorAt 9 = .ok (.getfield 22, 3) := by decide +kernel
theorem dX8_errorAt_12 : decode cX8_errorAt 12 = .ok (.iload_n 1, 1) := by decide +kernel
theorem dX8_errorAt_13 : decode cX8_errorAt 13 = .ok (.iaload, 1) := by decide +kernel
theorem dX8_errorAt_14 : decode cX8_errorAt 14 = .ok (.iload_n 2, 1) := by decide +kernel
theorem dX8_errorAt_15 : decode cX8_errorAt 15 = .ok (.aload_n 0, 1) := by decide +kernel
theorem dX8_errorAt_16 : decode cX8_errorAt 16 = .ok (.getfield 19, 3) := by decide +kernel
theorem dX8_errorAt_19 : decode cX8_errorAt 19 = .ok (.iload_n 1, 1) := by decide +kernel
theorem dX8_errorAt_20 : decode cX8_errorAt 20 = .ok (.iaload, 1) := by decide +kernel
theorem dX8_errorAt_21 : decode cX8_errorAt 21 = .ok (.isub, 1) := by decide +kernel
theorem dX8_errorAt_22 : decode cX8_errorAt 22 = .ok (.imul, 1) := by decide +kernel
theorem dX8_errorAt_23 : decode cX8_errorAt 23 = .ok (.sipush 1440, 3) := by decide +kernel
theorem dX8_errorAt_26 : decode cX8_errorAt 26 = .ok (.idiv, 1) := by decide +kernel
theorem dX8_errorAt_27 : decode cX8_errorAt 27 = .ok (.goto 4, 3) := by decide +kernel
theorem dX8_errorAt_30 : decode cX8_errorAt 30 = .ok (.iconst 0, 1) := by decide +kernel
theorem dX8_errorAt_31 : decode cX8_errorAt 31 = .ok (.ireturn, 1) := by decide +kernel
set_option maxRecDepth 20000 in
theorem ggX9_init_X6_init : GoodIn wsX9_init wsX6_init := goodIn_r _ [14, 15, 2, 3, 16, 17, 18, 19, 20, 4, 21, 22, 27, 28, 29] (by decide +kernel) (by decide +kernel)
set_option maxRecDepth 20000 in
theorem gX9_init_X6_init : GoodIn wsX9_init (wsX6_init) := ggX9_init_X6_init
theorem dX9_init_0 : decode cX9_init 0 = .ok (.aload_n 0, 1) := by decide +kernel
theorem dX9_init_1 : decode cX9_init 1 = .ok (.invokespecial 3, 3) := by decide +kernel
theorem dX9_init_4 : decode cX9_init 4 = .ok (.aload_n 0, 1) := by decide +kernel
theorem dX9_init_5 : decode cX9_init 5 = .ok (.bipush 16, 2) := by decide +kernel
theorem dX9_init_7 : decode cX9_init 7 = .ok (.newarray .int, 2) := by decide +kernel
theorem dX9_init_9 : decode cX9_init 9 = .ok (.putfield 9, 3) := by decide +kernel
theorem dX9_init_12 : decode cX9_init 12 = .ok (.aload_n 0, 1) := by decide +kernel
theorem dX9_init_13 : decode cX9_init 13 = .ok (.iconst 0, 1) := by decide +kernel
theorem dX9_init_14 : decode cX9_init 14 = .ok (.putfield 15, 3) := by decide +kernel
theorem dX9_init_17 : decode cX9_init 17 = .ok (.aload_n 0, 1) := by decide +kernel
theorem dX9_init_18 : decode cX9_init 18 = .ok (.new 19, 3) := by decide +kernel
theorem dX9_init_21 : decode cX9_init 21 = .ok (.dup, 1) := by decide +kernel
theorem dX9_init_22 : decode cX9_init 22 = .ok (.bipush 60, 2) := by decide +kernel
theorem dX9_init_24 : decode cX9_init 24 = .ok (.invokespecial 21, 3) := by decide +kernel
theorem dX9_init_27 : decode cX9_init 27 = .ok (.putfield 24, 3) := by decide +kernel
theorem dX9_init_30 : decode cX9_init 30 = .ok (.aload_n 0, 1) := by decide +kernel
theorem dX9_init_31 : decode cX9_init 31 = .ok (.bipush 60, 2) := by decide +kernel
theorem dX9_init_33 : decode cX9_init 33 = .ok (.newarray .int, 2) := by decide +kernel
theorem dX9_init_35 : decode cX9_init 35 = .ok (.putfield 28, 3) := by decide +kernel
theorem dX9_init_38 : decode cX9_init 38 = .ok (.return_, 1) := by decide +kernel
theorem dX9_has_0 : decode cX9_has 0 = .ok (.iload_n 1, 1) := by decide +kernel
theorem dX9_has_1 : decode cX9_has 1 = .ok (.ifCond .lt 15, 3) := by decide +kernel
theorem dX9_has_4 : decode cX9_has 4 = .ok (.iload_n 1, 1) := by decide +kernel
theorem dX9_has_5 : decode cX9_has 5 = .ok (.aload_n 0, 1) := by decide +kernel
theorem dX9_has_6 : decode cX9_has 6 = .ok (.getfield 15, 3) := by decide +kernel
theorem dX9_has_9 : decode cX9_has 9 = .ok (.if_icmp .ge 7, 3) := by decide +kernel
theorem dX9_has_12 : decode cX9_has 12 = .ok (.iconst 1, 1) := by decide +kernel
theorem dX9_has_13 : decode cX9_has 13 = .ok (.goto 4, 3) := by decide +kernel
theorem dX9_has_16 : decode cX9_has 16 = .ok (.iconst 0, 1) := by decide +kernel
theorem dX9_has_17 : decode cX9_has 17 = .ok (.ireturn, 1) := by decide +kernel
theorem dX9_settle_0 : decode cX9_settle 0 = .ok (.aload_n 0, 1) := by decide +kernel
theorem dX9_settle_1 : decode cX9_settle 1 = .ok (.getfield 15, 3) := by decide +kernel
theorem dX9_settle_4 : decode cX9_settle 4 = .ok (.bipush 16, 2) := by decide +kernel
theorem dX9_settle_6 : decode cX9_settle 6 = .ok (.if_icmp .lt 5, 3) := by decide +kernel
theorem dX9_settle_9 : decode cX9_settle 9 = .ok (.iconst (-1), 1) := by decide +kernel
theorem dX9_settle_10 : decode cX9_settle 10 = .ok (.ireturn, 1) := by decide +kernel
theorem dX9_settle_11 : decode cX9_settle 11 = .ok (.aload_n 0, 1) := by decide +kernel
theorem dX9_settle_12 : decode cX9_settle 12 = .ok (.getfield 9, 3) := by decide +kernel
theorem dX9_settle_15 : decode cX9_settle 15 = .ok (.aload_n 0, 1) := by decide +kernel
theorem dX9_settle_16 : decode cX9_settle 16 = .ok (.getfield 15, 3) := by decide +kernel
theorem dX9_settle_19 : decode cX9_settle 19 = .ok (.iload_n 1, 1) := by decide +kernel
theorem dX9_settle_20 : decode cX9_settle 20 = .ok (.iastore, 1) := by decide +kernel
theorem dX9_settle_21 : decode cX9_settle 21 = .ok (.aload_n 0, 1) := by decide +kernel
theorem dX9_settle_22 : decode cX9_settle 22 = .ok (.dup, 1) := by decide +kernel
theorem dX9_settle_23 : decode cX9_settle 23 = .ok (.getfield 15, 3) := by decide +kernel
theorem dX9_settle_26 : decode cX9_settle 26 = .ok (.iconst 1, 1) := by decide +kernel
theorem dX9_settle_27 : decode cX9_settle 27 = .ok (.iadd, 1) := by decide +kernel
theorem dX9_settle_28 : decode cX9_settle 28 = .ok (.putfield 15, 3) := by decide +kernel
theorem dX9_settle_31 : decode cX9_settle 31 = .ok (.aload_n 0, 1) := by decide +kernel
theorem dX9_settle_32 : decode cX9_settle 32 = .ok (.getfield 15, 3) := by decide +kernel
theorem dX9_settle_35 : decode cX9_settle 35 = .ok (.iconst 1, 1) := by decide +kernel
theorem dX9_settle_36 : decode cX9_settle 36 = .ok (.isub, 1) := by decide +kernel
theorem dX9_settle_37 : decode cX9_settle 37 = .ok (.ireturn, 1) := by decide +kernel
set_option maxRecDepth 20000 in
theorem ggX9_isClock_X9_has : GoodIn wsX9_isClock wsX9_has := goodIn_r _ [5, 6, 7, 8, 9, 10] (by decide +kernel) (by decide +kernel)
set_option maxRecDepth 20000 in
theorem gX9_isClock_X9_has : GoodIn wsX9_isClock (wsV RX9 31 RX9 yX9_has wsX9_has) := goodIn_app (goodIn_of _ (by decide +kernel)) ggX9_isClock_X9_has
theorem dX9_isClock_0 : decode cX9_isClock 0 = .ok (.iload_n 2, 1) := by decide +kernel
theorem dX9_isClock_1 : decode cX9_isClock 1 = .ok (.tableswitch 66 0 2 #[27, 29, 47], 27) := by decide +kernel
theorem dX9_isClock_28 : decode cX9_isClock 28 = .ok (.iconst 1, 1) := by decide +kernel
theorem dX9_isClock_29 : decode cX9_isClock 29 = .ok (.ireturn, 1) := by decide +kernel
theorem dX9_isClock_30 : decode cX9_isClock 30 = .ok (.iload_n 3, 1) := by decide +kernel
theorem dX9_isClock_31 : decode cX9_isClock 31 = .ok (.bipush (-12), 2) := by decide +kernel
theorem dX9_isClock_33 : decode cX9_isClock 33 = .ok (.if_icmp .lt 13, 3) := by decide +kernel
theorem dX9_isClock_36 : decode cX9_isClock 36 = .ok (.iload_n 3, 1) := by decide +kernel
theorem dX9_isClock_37 : decode cX9_isClock 37 = .ok (.bipush 12, 2) := by decide +kernel
theorem dX9_isClock_39 : decode cX9_isClock 39 = .ok (.if_icmp .gt 7, 3) := by decide +kernel
theorem dX9_isClock_42 : decode cX9_isClock 42 = .ok (.iconst 1, 1) := by decide +kernel
theorem dX9_isClock_43 : decode cX9_isClock 43 = .ok (.goto 4, 3) := by decide +kernel
theorem dX9_isClock_46 : decode cX9_isClock 46 = .ok (.iconst 0, 1) := by decide +kernel
theorem dX9_isClock_47 : decode cX9_isClock 47 = .ok (.ireturn, 1) := by decide +kernel
theorem dX9_isClock_48 : decode cX9_isClock 48 = .ok (.aload_n 0, 1) := by decide +kernel
theorem dX9_isClock_49 : decode cX9_isClock 49 = .ok (.iload_n 3, 1) := by decide +kernel
theorem dX9_isClock_50 : decode cX9_isClock 50 = .ok (.invokevirtual 31, 3) := by decide +kernel
theorem dX9_isClock_53 : decode cX9_isClock 53 = .ok (.ifCond .eq 12, 3) := by decide +kernel
theorem dX9_isClock_56 : decode cX9_isClock 56 = .ok (.iload_n 3, 1) := by decide +kernel
theorem dX9_isClock_57 : decode cX9_isClock 57 = .ok (.iload_n 1, 1) := by decide +kernel
theorem dX9_isClock_58 : decode cX9_isClock 58 = .ok (.if_icmp .eq 7, 3) := by decide +kernel
theorem dX9_isClock_61 : decode cX9_isClock 61 = .ok (.iconst 1, 1) := by decide +kernel
theorem dX9_isClock_62 : decode cX9_isClock 62 = .ok (.goto 4, 3) := by decide +kernel
theorem dX9_isClock_65 : decode cX9_isClock 65 = .ok (.iconst 0, 1) := by decide +kernel
theorem dX9_isClock_66 : decode cX9_isClock 66 = .ok (.ireturn, 1) := by decide +kernel
theorem dX9_isClock_67 : decode cX9_isClock 67 = .ok (.iconst 0, 1) := by decide +kernel
theorem dX9_isClock_68 : decode cX9_isClock 68 = .ok (.ireturn, 1) := by decide +kernel
set_option maxRecDepth 20000 in
theorem ggX9_shiftOfKind_X9_sunOf : GoodIn wsX9_shiftOfKind wsX9_sunOf := goodIn_r _ [5, 6, 7, 8, 9, 4, 10, 11, 12, 13, 14, 15] (by decide +kernel) (by decide +kernel)
set_option maxRecDepth 20000 in
theorem gX9_shiftOfKind_X9_sunOf : GoodIn wsX9_shiftOfKind (wsV RX9 35 RX9 yX9_sunOf wsX9_sunOf) := goodIn_app (goodIn_of _ (by decide +kernel)) ggX9_shiftOfKind_X9_sunOf
theorem dX9_shiftOfKind_0 : decode cX9_shiftOfKind 0 = .ok (.iload_n 2, 1) := by decide +kernel
theorem dX9_shiftOfKind_1 : decode cX9_shiftOfKind 1 = .ok (.lookupswitch 38 #[(1, 27), (2, 32)], 27) := by decide +kernel
theorem dX9_shiftOfKind_28 : decode cX9_shiftOfKind 28 = .ok (.bipush 60, 2) := by decide +kernel
theorem dX9_shiftOfKind_30 : decode cX9_shiftOfKind 30 = .ok (.iload_n 3, 1) := by decide +kernel
theorem dX9_shiftOfKind_31 : decode cX9_shiftOfKind 31 = .ok (.imul, 1) := by decide +kernel
theorem dX9_shiftOfKind_32 : decode cX9_shiftOfKind 32 = .ok (.ireturn, 1) := by decide +kernel
theorem dX9_shiftOfKind_33 : decode cX9_shiftOfKind 33 = .ok (.aload_n 0, 1) := by decide +kernel
theorem dX9_shiftOfKind_34 : decode cX9_shiftOfKind 34 = .ok (.iload_n 3, 1) := by decide +kernel
theorem dX9_shiftOfKind_35 : decode cX9_shiftOfKind 35 = .ok (.invokevirtual 35, 3) := by decide +kernel
theorem dX9_shiftOfKind_38 : decode cX9_shiftOfKind 38 = .ok (.ireturn, 1) := by decide +kernel
theorem dX9_shiftOfKind_39 : decode cX9_shiftOfKind 39 = .ok (.aload_n 0, 1) := by decide +kernel
theorem dX9_shiftOfKind_40 : decode cX9_shiftOfKind 40 = .ok (.iload_n 1, 1) := by decide +kernel
theorem dX9_shiftOfKind_41 : decode cX9_shiftOfKind 41 = .ok (.invokevirtual 35, 3) := by decide +kernel
theorem dX9_shiftOfKind_44 : decode cX9_shiftOfKind 44 = .ok (.ireturn, 1) := by decide +kernel
set_option maxRecDepth 20000 in
theorem ggX9_sunOf_X9_has : GoodIn wsX9_sunOf wsX9_has := goodIn_r _ [6, 7, 8, 9, 10, 11] (by decide +kernel) (by decide +kernel)
set_option maxRecDepth 20000 in
theorem gX9_sunOf_X9_has : GoodIn wsX9_sunOf (wsV RX9 31 RX9 yX9_has wsX9_has) := goodIn_app (goodIn_of _ (by decide +kernel)) ggX9_sunOf_X9_has
theorem dX9_sunOf_0 : decode cX9_sunOf 0 = .ok (.aload_n 0, 1) := by decide +kernel
theorem dX9_sunOf_1 : decode cX9_sunOf 1 = .ok (.iload_n 1, 1) := by decide +kernel
theorem dX9_sunOf_2 : decode cX9_sunOf 2 = .ok (.invokevirtual 31, 3) := by decide +kernel
theorem dX9_sunOf_5 : decode cX9_sunOf 5 = .ok (.ifCond .eq 12, 3) := by decide +kernel
theorem dX9_sunOf_8 : decode cX9_sunOf 8 = .ok (.aload_n 0, 1) := by decide +kernel
theorem dX9_sunOf_9 : decode cX9_sunOf 9 = .ok (.getfield 9, 3) := by decide +kernel
theorem dX9_sunOf_12 : decode cX9_sunOf 12 = .ok (.iload_n 1, 1) := by decide +kernel
theorem dX9_sunOf_13 : decode cX9_sunOf 13 = .ok (.iaload, 1) := by decide +kernel
theorem dX9_sunOf_14 : decode cX9_sunOf 14 = .ok (.goto 4, 3) := by decide +kernel
theorem dX9_sunOf_17 : decode cX9_sunOf 17 = .ok (.iconst 0, 1) := by decide +kernel
theorem dX9_sunOf_18 : decode cX9_sunOf 18 = .ok (.ireturn, 1) := by decide +kernel
set_option maxRecDepth 20000 in
theorem ggX9_tellClock_X6_isFull : GoodIn wsX9_tellClock wsX6_isFull := goodIn_r _ [8, 9, 10, 20, 21, 22] (by decide +kernel) (by decide +kernel)
set_option maxRecDepth 20000 in
theorem gX9_tellClock_X6_isFull : GoodIn wsX9_tellClock (wsV RX9 39 RX6 yX6_isFull wsX6_isFull) := goodIn_app (goodIn_of _ (by decide +kernel)) ggX9_tellClock_X6_isFull
set_option maxRecDepth 20000 in
theorem ggX9_tellClock_X6_add : GoodIn wsX9_tellClock wsX6_add := goodIn_r _ [14, 9, 10, 15, 20, 21, 22] (by decide +kernel) (by decide +kernel)
set_option maxRecDepth 20000 in
theorem gX9_tellClock_X6_add : GoodIn wsX9_tellClock (wsV RX9 44 RX6 yX6_add wsX6_add) := goodIn_app (goodIn_of _ (by decide +kernel)) ggX9_tellClock_X6_add
theorem dX9_tellClock_0 : decode cX9_tellClock 0 = .ok (.aload_n 0, 1) := by decide +kernel
theorem dX9_tellClock_1 : decode cX9_tellClock 1 = .ok (.getfield 24, 3) := by decide +kernel
theorem dX9_tellClock_4 : decode cX9_tellClock 4 = .ok (.invokevirtual 39, 3) := by decide +kernel
theorem dX9_tellClock_7 : decode cX9_tellClock 7 = .ok (.ifCond .eq 5, 3) := by decide +kernel
theorem dX9_tellClock_10 : decode cX9_tellClock 10 = .ok (.iconst (-1), 1) := by decide +kernel
theorem dX9_tellClock_11 : decode cX9_tellClock 11 = .ok (.ireturn, 1) := by decide +kernel
theorem dX9_tellClock_12 : decode cX9_tellClock 12 = .ok (.aload_n 0, 1) := by decide +kernel
theorem dX9_tellClock_13 : decode cX9_tellClock 13 = .ok (.getfield 28, 3) := by decide +kernel
theorem dX9_tellClock_16 : decode cX9_tellClock 16 = .ok (.aload_n 0, 1) := by decide +kernel
theorem dX9_tellClock_17 : decode cX9_tellClock 17 = .ok (.getfield 24, 3) := by decide +kernel
theorem dX9_tellClock_20 : decode cX9_tellClock 20 = .ok (.getfield 43, 3) := by decide +kernel
theorem dX9_tellClock_23 : decode cX9_tellClock 23 = .ok (.iload_n 3, 1) := by decide +kernel
theorem dX9_tellClock_24 : decode cX9_tellClock 24 = .ok (.iastore, 1) := by decide +kernel
theorem dX9_tellClock_25 : decode cX9_tellClock 25 = .ok (.aload_n 0, 1) := by decide +kernel
theorem dX9_tellClock_26 : decode cX9_tellClock 26 = .ok (.getfield 24, 3) := by decide +kernel
theorem dX9_tellClock_29 : decode cX9_tellClock 29 = .ok (.iload_n 1, 1) := by decide +kernel
theorem dX9_tellClock_30 : decode cX9_tellClock 30 = .ok (.iload_n 2, 1) := by decide +kernel
theorem dX9_tellClock_31 : decode cX9_tellClock 31 = .ok (.invokevirtual 44, 3) := by decide +kernel
theorem dX9_tellClock_34 : decode cX9_tellClock 34 = .ok (.aload_n 0, 1) := by decide +kernel
theorem dX9_tellClock_35 : decode cX9_tellClock 35 = .ok (.getfield 24, 3) := by decide +kernel
theorem dX9_tellClock_38 : decode cX9_tellClock 38 = .ok (.getfield 43, 3) := by decide +kernel
theorem dX9_tellClock_41 : decode cX9_tellClock 41 = .ok (.ireturn, 1) := by decide +kernel
set_option maxRecDepth 20000 in
theorem ggX9_takeClockBack_X6_dropLast : GoodIn wsX9_takeClockBack wsX6_dropLast := goodIn_r _ [7, 8, 13, 14, 15] (by decide +kernel) (by decide +kernel)
set_option maxRecDepth 20000 in
theorem gX9_takeClockBack_X6_dropLast : GoodIn wsX9_takeClockBack (wsV RX9 48 RX6 yX6_dropLast wsX6_dropLast) := goodIn_app (goodIn_of _ (by decide +kernel)) ggX9_takeClockBack_X6_dropLast
theorem dX9_takeClockBack_0 : decode cX9_takeClockBack 0 = .ok (.aload_n 0, 1) := by decide +kernel
theorem dX9_takeClockBack_1 : decode cX9_takeClockBack 1 = .ok (.getfield 24, 3) := by decide +kernel
theorem dX9_takeClockBack_4 : decode cX9_takeClockBack 4 = .ok (.getfield 43, 3) := by decide +kernel
theorem dX9_takeClockBack_7 : decode cX9_takeClockBack 7 = .ok (.ifCond .ne 5, 3) := by decide +kernel
theorem dX9_takeClockBack_10 : decode cX9_takeClockBack 10 = .ok (.iconst (-1), 1) := by decide +kernel
theorem dX9_takeClockBack_11 : decode cX9_takeClockBack 11 = .ok (.ireturn, 1) := by decide +kernel
theorem dX9_takeClockBack_12 : decode cX9_takeClockBack 12 = .ok (.aload_n 0, 1) := by decide +kernel
theorem dX9_takeClockBack_13 : decode cX9_takeClockBack 13 = .ok (.getfield 24, 3) := by decide +kernel
theorem dX9_takeClockBack_16 : decode cX9_takeClockBack 16 = .ok (.invokevirtual 48, 3) := by decide +kernel
theorem dX9_takeClockBack_19 : decode cX9_takeClockBack 19 = .ok (.aload_n 0, 1) := by decide +kernel
theorem dX9_takeClockBack_20 : decode cX9_takeClockBack 20 = .ok (.getfield 24, 3) := by decide +kernel
theorem dX9_takeClockBack_23 : decode cX9_takeClockBack 23 = .ok (.getfield 43, 3) := by decide +kernel
theorem dX9_takeClockBack_26 : decode cX9_takeClockBack 26 = .ok (.ireturn, 1) := by decide +kernel
set_option maxRecDepth 20000 in
theorem ggX9_shiftOn_X6_holding : GoodIn wsX9_shiftOn wsX6_holding := goodIn_r _ [7, 8, 9, 10, 26, 27, 28] (by decide +kernel) (by decide +kernel)
set_option maxRecDepth 20000 in
theorem gX9_shiftOn_X6_holding : GoodIn wsX9_shiftOn (wsV RX9 51 RX6 yX6_holding wsX6_holding) := goodIn_app (goodIn_of _ (by decide +kernel)) ggX9_shiftOn_X6_holding
set_option maxRecDepth 20000 in
theorem ggX9_shiftOn_X9_sunOf : GoodIn wsX9_shiftOn wsX9_sunOf := goodIn_r _ [15, 16, 17, 18, 19, 14, 20, 21, 22, 23, 24, 25] (by decide +kernel) (by decide +kernel)
set_option maxRecDepth 20000 in
theorem gX9_shiftOn_X9_sunOf : GoodIn wsX9_shiftOn (wsV RX9 35 RX9 yX9_sunOf wsX9_sunOf) := goodIn_app (goodIn_of _ (by decide +kernel)) ggX9_shiftOn_X9_sunOf
theorem dX9_shiftOn_0 : decode cX9_shiftOn 0 = .ok (.aload_n 0, 1) := by decide +kernel
theorem dX9_shiftOn_1 : decode cX9_shiftOn 1 = .ok (.getfield 24, 3) := by decide +kernel
theorem dX9_shiftOn_4 : decode cX9_shiftOn 4 = .ok (.iload_n 1, 1) := by decide +kernel
theorem dX9_shiftOn_5 : decode cX9_shiftOn 5 = .ok (.iload_n 2, 1) := by decide +kernel
theorem dX9_shiftOn_6 : decode cX9_shiftOn 6 = .ok (.invokevirtual 51, 3) := by decide +kernel
theorem dX9_shiftOn_9 : decode cX9_shiftOn 9 = .ok (.istore_n 3, 1) := by decide +kernel
theorem dX9_shiftOn_10 : decode cX9_shiftOn 10 = .ok (.iload_n 3, 1) := by decide +kernel
theorem dX9_shiftOn_11 : decode cX9_shiftOn 11 = .ok (.iconst (-1), 1) := by decide +kernel
theorem dX9_shiftOn_12 : decode cX9_shiftOn 12 = .ok (.if_icmp .ne 11, 3) := by decide +kernel
theorem dX9_shiftOn_15 : decode cX9_shiftOn 15 = .ok (.aload_n 0, 1) := by decide +kernel
theorem dX9_shiftOn_16 : decode cX9_shiftOn 16 = .ok (.iload_n 1, 1) := by decide +kernel
theorem dX9_shiftOn_17 : decode cX9_shiftOn 17 = .ok (.invokevirtual 35, 3) := by decide +kernel
theorem dX9_shiftOn_20 : decode cX9_shiftOn 20 = .ok (.goto 9, 3) := by decide +kernel
theorem dX9_shiftOn_23 : decode cX9_shiftOn 23 = .ok (.aload_n 0, 1) := by decide +kernel
theorem dX9_shiftOn_24 : decode cX9_shiftOn 24 = .ok (.getfield 28, 3) := by decide +kernel
theorem dX9_shiftOn_27 : decode cX9_shiftOn 27 = .ok (.iload_n 3, 1) := by decide +kernel
theorem dX9_shiftOn_28 : decode cX9_shiftOn 28 = .ok (.iaload, 1) := by decide +kernel
theorem dX9_shiftOn_29 : decode cX9_shiftOn 29 = .ok (.ireturn, 1) := by decide +kernel
set_option maxRecDepth 20000 in
theorem ggX9_readingAt_X9_shiftOn : GoodIn wsX9_readingAt wsX9_shiftOn := goodIn_r _ [5, 6, 7, 8, 9, 10, 11, 12, 13, 14, 15, 16, 17, 18, 4, 19, 20, 21, 22, 23, 24, 25, 26, 27, 28, 29, 30, 31, 32] (by decide +kernel) (by decide +kernel)
set_option maxRecDepth 20000 in
theorem gX9_readingAt_X9_shiftOn : GoodIn wsX9_readingAt (wsV RX9 55 RX9 yX9_shiftOn wsX9_shiftOn) := goodIn_app (goodIn_of _ (by decide +kernel)) ggX9_readingAt_X9_shiftOn
theorem dX9_readingAt_0 : decode cX9_readingAt 0 = .ok (.iload_n 2, 1) := by decide +kernel
theorem dX9_readingAt_1 : decode cX9_readingAt 1 = .ok (.aload_n 0, 1) := by decide +kernel
theorem dX9_readingAt_2 : decode cX9_readingAt 2 = .ok (.iload_n 1, 1) := by decide +kernel
theorem dX9_readingAt_3 : decode cX9_readingAt 3 = .ok (.iload_n 2, 1) := by decide +kernel
theorem dX9_readingAt_4 : decode cX9_readingAt 4 = .ok (.sipush 1440, 3) := by decide +kernel
theorem dX9_readingAt_7 : decode cX9_readingAt 7 = .ok (.idiv, 1) := by decide +kernel
theorem dX9_readingAt_8 : decode cX9_readingAt 8 = .ok (.invokevirtual 55, 3) := by decide +kernel
theorem dX9_readingAt_11 : decode cX9_readingAt 11 = .ok (.iadd, 1) := by decide +kernel
theorem dX9_readingAt_12 : decode cX9_readingAt 12 = .ok (.ireturn, 1) := by decide +kernel
set_option maxRecDepth 20000 in
theorem ggX9_nearestZone_X9_sunOf : GoodIn wsX9_nearestZone wsX9_sunOf := goodIn_r _ [5, 6, 7, 8, 9, 4, 10, 11, 16, 17, 18, 19] (by decide +kernel) (by decide +kernel)
set_option maxRecDepth 20000 in
theorem gX9_nearestZone_X9_sunOf : GoodIn wsX9_nearestZone (wsV RX9 35 RX9 yX9_sunOf wsX9_sunOf) := goodIn_app (goodIn_of _ (by decide +kernel)) ggX9_nearestZone_X9_sunOf
set_option maxRecDepth 20000 in
theorem ggX9_nearestZone_J9_floorDiv_7cf53 : GoodIn wsX9_nearestZone wsJ9_floorDiv_7cf53 := goodIn_r _ [15] (by decide +kernel) (by decide +kernel)
set_option maxRecDepth 20000 in
theorem gX9_nearestZone_J9_floorDiv_7cf53 : GoodIn wsX9_nearestZone (va_wsS RX9 58 yJ9_floorDiv_7cf53 wsJ9_floorDiv_7cf53) := goodIn_app (goodIn_of _ (by decide +kernel)) ggX9_nearestZone_J9_floorDiv_7cf53
theorem dX9_nearestZone_0 : decode cX9_nearestZone 0 = .ok (.bipush 60, 2) := by decide +kernel
theorem dX9_nearestZone_2 : decode cX9_nearestZone 2 = .ok (.aload_n 0, 1) := by decide +kernel
theorem dX9_nearestZone_3 : decode cX9_nearestZone 3 = .ok (.iload_n 1, 1) := by decide +kernel
theorem dX9_nearestZone_4 : decode cX9_nearestZone 4 = .ok (.invokevirtual 35, 3) := by decide +kernel
theorem dX9_nearestZone_7 : decode cX9_nearestZone 7 = .ok (.bipush 30, 2) := by decide +kernel
theorem dX9_nearestZone_9 : decode cX9_nearestZone 9 = .ok (.iadd, 1) := by decide +kernel
theorem dX9_nearestZone_10 : decode cX9_nearestZone 10 = .ok (.bipush 60, 2) := by decide +kernel
theorem dX9_nearestZone_12 : decode cX9_nearestZone 12 = .ok (.invokestatic 58, 3) := by decide +kernel
theorem dX9_nearestZone_15 : decode cX9_nearestZone 15 = .ok (.imul, 1) := by decide +kernel
theorem dX9_nearestZone_16 : decode cX9_nearestZone 16 = .ok (.ireturn, 1) := by decide +kernel
set_option maxRecDepth 20000 in
theorem ggX9_firstDayNear_J9_floorDiv_7cf53 : GoodIn wsX9_firstDayNear wsJ9_floorDiv_7cf53 := goodIn_r _ [5] (by decide +kernel) (by decide +kernel)
set_option maxRecDepth 20000 in
theorem gX9_firstDayNear_J9_floorDiv_7cf53 : GoodIn wsX9_firstDayNear (va_wsS RX9 58 yJ9_floorDiv_7cf53 wsJ9_floorDiv_7cf53) := goodIn_app (goodIn_of _ (by decide +kernel)) ggX9_firstDayNear_J9_floorDiv_7cf53
theorem dX9_firstDayNear_0 : decode cX9_firstDayNear 0 = .ok (.iload_n 0, 1) := by decide +kernel
theorem dX9_firstDayNear_1 : decode cX9_firstDayNear 1 = .ok (.sipush (-720), 3) := by decide +kernel
theorem dX9_firstDayNear_4 : decode cX9_firstDayNear 4 = .ok (.if_icmp .lt 9, 3) := by decide +kernel
theorem dX9_firstDayNear_7 : decode cX9_firstDayNear 7 = .ok (.iload_n 0, 1) := by decide +kernel
theorem dX9_firstDayNear_8 : decode cX9_firstDayNear 8 = .ok (.ldc 63, 2) := by decide +kernel
theorem dX9_firstDayNear_10 : decode cX9_firstDayNear 10 = .ok (.if_icmp .lt 7, 3) := by decide +kernel
theorem dX9_firstDayNear_13 : decode cX9_firstDayNear 13 = .ok (.sipush 400, 3) := by decide +kernel
theorem dX9_firstDayNear_16 : decode cX9_firstDayNear 16 = .ok (.ireturn, 1) := by decide +kernel
theorem dX9_firstDayNear_17 : decode cX9_firstDayNear 17 = .ok (.iload_n 0, 1) := by decide +kernel
theorem dX9_firstDayNear_18 : decode cX9_firstDayNear 18 = .ok (.sipush 720, 3) := by decide +kernel
theorem dX9_firstDayNear_21 : decode cX9_firstDayNear 21 = .ok (.isub, 1) := by decide +kernel
theorem dX9_firstDayNear_22 : decode cX9_firstDayNear 22 = .ok (.sipush 1440, 3) := by decide +kernel
theorem dX9_firstDayNear_25 : decode cX9_firstDayNear 25 = .ok (.invokestatic 58, 3) := by decide +kernel
theorem dX9_firstDayNear_28 : decode cX9_firstDayNear 28 = .ok (.ireturn, 1) := by decide +kernel
set_option maxRecDepth 20000 in
theorem ggX9_minuteShowing_X10_isDay : GoodIn wsX9_minuteShowing wsX10_isDay := goodIn_r _ [3] (by decide +kernel) (by decide +kernel)
set_option maxRecDepth 20000 in
theorem gX9_minuteShowing_X10_isDay_n64 : GoodIn wsX9_minuteShowing (wsX10_isDay) := ggX9_minuteShowing_X10_isDay
set_option maxRecDepth 20000 in
theorem ggX9_minuteShowing_X9_shiftOn : GoodIn wsX9_minuteShowing wsX9_shiftOn := goodIn_r _ [8, 9, 10, 11, 12, 13, 14, 15, 16, 17, 18, 19, 20, 21, 7, 22, 23, 24, 25, 26, 27, 28, 33, 34, 35, 36, 37, 38, 39] (by decide +kernel) (by decide +kernel)
set_option maxRecDepth 20000 in
theorem gX9_minuteShowing_X9_shiftOn : GoodIn wsX9_minuteShowing (wsV RX9 55 RX9 yX9_shiftOn wsX9_shiftOn) := goodIn_app (goodIn_of _ (by decide +kernel)) ggX9_minuteShowing_X9_shiftOn
set_option maxRecDepth 20000 in
theorem ggX9_minuteShowing_J9_floorDiv_7cf53 : GoodIn wsX9_minuteShowing wsJ9_floorDiv_7cf53 := goodIn_r _ [32] (by decide +kernel) (by decide +kernel)
set_option maxRecDepth 20000 in
theorem gX9_minuteShowing_J9_floorDiv_7cf53 : GoodIn wsX9_minuteShowing (va_wsS RX9 58 yJ9_floorDiv_7cf53 wsJ9_floorDiv_7cf53) := goodIn_app (goodIn_of _ (by decide +kernel)) ggX9_minuteShowing_J9_floorDiv_7cf53
theorem dX9_minuteShowing_0 : decode cX9_minuteShowing 0 = .ok (.iload_n 2, 1) := by decide +kernel
theorem dX9_minuteShowing_1 : decode cX9_minuteShowing 1 = .ok (.invokestatic 64, 3) := by decide +kernel
theorem dX9_minuteShowing_4 : decode cX9_minuteShowing 4 = .ok (.ifCond .ne 5, 3) := by decide +kernel
theorem dX9_minuteShowing_7 : decode cX9_minuteShowing 7 = .ok (.iconst (-1), 1) := by decide +kernel
theorem dX9_minuteShowing_8 : decode cX9_minuteShowing 8 = .ok (.ireturn, 1) := by decide +kernel
theorem dX9_minuteShowing_9 : decode cX9_minuteShowing 9 = .ok (.iload_n 3, 1) := by decide +kernel
theorem dX9_minuteShowing_10 : decode cX9_minuteShowing 10 = .ok (.aload_n 0, 1) := by decide +kernel
theorem dX9_minuteShowing_11 : decode cX9_minuteShowing 11 = .ok (.iload_n 1, 1) := by decide +kernel
theorem dX9_minuteShowing_12 : decode cX9_minuteShowing 12 = .ok (.iload_n 2, 1) := by decide +kernel
theorem dX9_minuteShowing_13 : decode cX9_minuteShowing 13 = .ok (.invokevirtual 55, 3) := by decide +kernel
theorem dX9_minuteShowing_16 : decode cX9_minuteShowing 16 = .ok (.isub, 1) := by decide +kernel
theorem dX9_minuteShowing_17 : decode cX9_minuteShowing 17 = .ok (.istore 4, 2) := by decide +kernel
theorem dX9_minuteShowing_19 : decode cX9_minuteShowing 19 = .ok (.iload 4, 2) := by decide +kernel
theorem dX9_minuteShowing_21 : decode cX9_minuteShowing 21 = .ok (.sipush 1440, 3) := by decide +kernel
theorem dX9_minuteShowing_24 : decode cX9_minuteShowing 24 = .ok (.invokestatic 58, 3) := by decide +kernel
theorem dX9_minuteShowing_27 : decode cX9_minuteShowing 27 = .ok (.iload_n 2, 1) := by decide +kernel
theorem dX9_minuteShowing_28 : decode cX9_minuteShowing 28 = .ok (.if_icmp .ne 8, 3) := by decide +kernel
theorem dX9_minuteShowing_31 : decode cX9_minuteShowing 31 = .ok (.iload 4, 2) := by decide +kernel
theorem dX9_minuteShowing_33 : decode cX9_minuteShowing 33 = .ok (.goto 4, 3) := by decide +kernel
theorem dX9_minuteShowing_36 : decode cX9_minuteShowing 36 = .ok (.iconst (-1), 1) := by decide +kernel
theorem dX9_minuteShowing_37 : decode cX9_minuteShowing 37 = .ok (.ireturn, 1) := by decide +kernel
set_option maxRecDepth 20000 in
theorem ggX9_firstShowing_X9_firstDayNear : GoodIn wsX9_firstShowing wsX9_firstDayNear := goodIn_r _ [4, 5, 6, 7, 8, 9] (by decide +kernel) (by decide +kernel)
set_option maxRecDepth 20000 in
theorem gX9_firstShowing_X9_firstDayNear : GoodIn wsX9_firstShowing (va_wsS RX9 67 yX9_firstDayNear wsX9_firstDayNear) := goodIn_app (goodIn_of _ (by decide +kernel)) ggX9_firstShowing_X9_firstDayNear
set_option maxRecDepth 20000 in
theorem ggX9_firstShowing_X9_minuteShowing : GoodIn wsX9_firstShowing wsX9_minuteShowing := goodIn_r _ [13, 14, 15, 16, 17, 18, 19, 3, 20, 21, 22, 23, 24, 25, 26, 27, 28, 29, 30, 31, 32, 33, 34, 35, 36, 37, 38, 39, 40, 6, 7, 8, 9, 41, 42, 43, 44, 45, 46, 47] (by decide +kernel) (by decide +kernel)
set_option maxRecDepth 20000 in
theorem gX9_firstShowing_X9_minuteShowing : GoodIn wsX9_firstShowing (wsV RX9 70 RX9 yX9_minuteShowing wsX9_minuteShowing) := goodIn_app (goodIn_of _ (by decide +kernel)) ggX9_firstShowing_X9_minuteShowing
theorem dX9_firstShowing_0 : decode cX9_firstShowing 0 = .ok (.iload_n 2, 1) := by decide +kernel
theorem dX9_firstShowing_1 : decode cX9_firstShowing 1 = .ok (.invokestatic 67, 3) := by decide +kernel
theorem dX9_firstShowing_4 : decode cX9_firstShowing 4 = .ok (.istore_n 3, 1) := by decide +kernel
theorem dX9_firstShowing_5 : decode cX9_firstShowing 5 = .ok (.aload_n 0, 1) := by decide +kernel
theorem dX9_firstShowing_6 : decode cX9_firstShowing 6 = .ok (.iload_n 1, 1) := by decide +kernel
theorem dX9_firstShowing_7 : decode cX9_firstShowing 7 = .ok (.iload_n 3, 1) := by decide +kernel
theorem dX9_firstShowing_8 : decode cX9_firstShowing 8 = .ok (.iload_n 2, 1) := by decide +kernel
theorem dX9_firstShowing_9 : decode cX9_firstShowing 9 = .ok (.invokevirtual 70, 3) := by decide +kernel
theorem dX9_firstShowing_12 : decode cX9_firstShowing 12 = .ok (.istore 4, 2) := by decide +kernel
theorem dX9_firstShowing_14 : decode cX9_firstShowing 14 = .ok (.iload 4, 2) := by decide +kernel
theorem dX9_firstShowing_16 : decode cX9_firstShowing 16 = .ok (.iconst (-1), 1) := by decide +kernel
theorem dX9_firstShowing_17 : decode cX9_firstShowing 17 = .ok (.if_icmp .eq 8, 3) := by decide +kernel
theorem dX9_firstShowing_20 : decode cX9_firstShowing 20 = .ok (.iload 4, 2) := by decide +kernel
theorem dX9_firstShowing_22 : decode cX9_firstShowing 22 = .ok (.goto 12, 3) := by decide +kernel
theorem dX9_firstShowing_25 : decode cX9_firstShowing 25 = .ok (.aload_n 0, 1) := by decide +kernel
theorem dX9_firstShowing_26 : decode cX9_firstShowing 26 = .ok (.iload_n 1, 1) := by decide +kernel
theorem dX9_firstShowing_27 : decode cX9_firstShowing 27 = .ok (.iload_n 3, 1) := by decide +kernel
theorem dX9_firstShowing_28 : decode cX9_firstShowing 28 = .ok (.iconst 1, 1) := by decide +kernel
theorem dX9_firstShowing_29 : decode cX9_firstShowing 29 = .ok (.iadd, 1) := by decide +kernel
theorem dX9_firstShowing_30 : decode cX9_firstShowing 30 = .ok (.iload_n 2, 1) := by decide +kernel
theorem dX9_firstShowing_31 : decode cX9_firstShowing 31 = .ok (.invokevirtual 70, 3) := by decide +kernel
theorem dX9_firstShowing_34 : decode cX9_firstShowing 34 = .ok (.ireturn, 1) := by decide +kernel
set_option maxRecDepth 20000 in
theorem ggX9_daysUnlike_X6_nextDay : GoodIn wsX9_daysUnlike wsX6_nextDay := goodIn_r _ [10, 11, 12, 13, 38, 39, 40] (by decide +kernel) (by decide +kernel)
set_option maxRecDepth 20000 in
theorem gX9_daysUnlike_X6_nextDay : GoodIn wsX9_daysUnlike (wsV RX9 74 RX6 yX6_nextDay wsX6_nextDay) := goodIn_app (goodIn_of _ (by decide +kernel)) ggX9_daysUnlike_X6_nextDay
set_option maxRecDepth 20000 in
theorem ggX9_daysUnlike_X9_shiftOn : GoodIn wsX9_daysUnlike wsX9_shiftOn := goodIn_r _ [18, 1, 19, 20, 21, 22, 9, 23, 11, 12, 13, 24, 25, 26, 17, 27, 28, 29, 30, 31, 32, 33, 34, 35, 36, 37, 38, 39, 40] (by decide +kernel) (by decide +kernel)
set_option maxRecDepth 20000 in
theorem gX9_daysUnlike_X9_shiftOn : GoodIn wsX9_daysUnlike (wsV RX9 55 RX9 yX9_shiftOn wsX9_shiftOn) := goodIn_app (goodIn_of _ (by decide +kernel)) ggX9_daysUnlike_X9_shiftOn
theorem dX9_daysUnlike_0 : decode cX9_daysUnlike 0 = .ok (.iconst 0, 1) := by decide +kernel
theorem dX9_daysUnlike_1 : decode cX9_daysUnlike 1 = .ok (.istore_n 3, 1) := by decide +kernel
theorem dX9_daysUnlike_2 : decode cX9_daysUnlike 2 = .ok (.iconst 0, 1) := by decide +kernel
theorem dX9_daysUnlike_3 : decode cX9_daysUnlike 3 = .ok (.istore 4, 2) := by decide +kernel
theorem dX9_daysUnlike_5 : decode cX9_daysUnlike 5 = .ok (.iconst 0, 1) := by decide +kernel
theorem dX9_daysUnlike_6 : decode cX9_daysUnlike 6 = .ok (.istore 5, 2) := by decide +kernel
theorem dX9_daysUnlike_8 : decode cX9_daysUnlike 8 = .ok (.iload 5, 2) := by decide +kernel
theorem dX9_daysUnlike_10 : decode cX9_daysUnlike 10 = .ok (.sipush 400, 3) := by decide +kernel
theorem dX9_daysUnlike_13 : decode cX9_daysUnlike 13 = .ok (.if_icmp .ge 71, 3) := by decide +kernel
theorem dX9_daysUnlike_16 : decode cX9_daysUnlike 16 = .ok (.iload 4, 2) := by decide +kernel
theorem dX9_daysUnlike_18 : decode cX9_daysUnlike 18 = .ok (.sipush 400, 3) := by decide +kernel
theorem dX9_daysUnlike_21 : decode cX9_daysUnlike 21 = .ok (.if_icmp .ge 63, 3) := by decide +kernel
theorem dX9_daysUnlike_24 : decode cX9_daysUnlike 24 = .ok (.aload_n 0, 1) := by decide +kernel
theorem dX9_daysUnlike_25 : decode cX9_daysUnlike 25 = .ok (.getfield 24, 3) := by decide +kernel
theorem dX9_daysUnlike_28 : decode cX9_daysUnlike 28 = .ok (.iload_n 1, 1) := by decide +kernel
theorem dX9_daysUnlike_29 : decode cX9_daysUnlike 29 = .ok (.iload 4, 2) := by decide +kernel
theorem dX9_daysUnlike_31 : decode cX9_daysUnlike 31 = .ok (.invokevirtual 74, 3) := by decide +kernel
theorem dX9_daysUnlike_34 : decode cX9_daysUnlike 34 = .ok (.aload_n 0, 1) := by decide +kernel
theorem dX9_daysUnlike_35 : decode cX9_daysUnlike 35 = .ok (.getfield 24, 3) := by decide +kernel
theorem dX9_daysUnlike_38 : decode cX9_daysUnlike 38 = .ok (.iload_n 2, 1) := by decide +kernel
theorem dX9_daysUnlike_39 : decode cX9_daysUnlike 39 = .ok (.iload 4, 2) := by decide +kernel
theorem dX9_daysUnlike_41 : decode cX9_daysUnlike 41 = .ok (.invokevirtual 74, 3) := by decide +kernel
theorem dX9_daysUnlike_44 : decode cX9_daysUnlike 44 = .ok (.invokestatic 77, 3) := by decide +kernel
theorem dX9_daysUnlike_47 : decode cX9_daysUnlike 47 = .ok (.istore 6, 2) := by decide +kernel
theorem dX9_daysUnlike_49 : decode cX9_daysUnlike 49 = .ok (.aload_n 0, 1) := by decide +kernel
theorem dX9_daysUnlike_50 : decode cX9_daysUnlike 50 = .ok (.iload_n 1, 1) := by decide +kernel
theorem dX9_daysUnlike_51 : decode cX9_daysUnlike 51 = .ok (.iload 4, 2) := by decide +kernel
theorem dX9_daysUnlike_53 : decode cX9_daysUnlike 53 = .ok (.invokevirtual 55, 3) := by decide +kernel
theorem dX9_daysUnlike_56 : decode cX9_daysUnlike 56 = .ok (.aload_n 0, 1) := by decide +kernel
theorem dX9_daysUnlike_57 : decode cX9_daysUnlike 57 = .ok (.iload_n 2, 1) := by decide +kernel
theorem dX9_daysUnlike_58 : decode cX9_daysUnlike 58 = .ok (.iload 4, 2) := by decide +kernel
theorem dX9_daysUnlike_60 : decode cX9_daysUnlike 60 = .ok (.invokevirtual 55, 3) := by decide +kernel
theorem dX9_daysUnlike_63 : decode cX9_daysUnlike 63 = .ok (.if_icmp .eq 11, 3) := by decide +kernel
theorem dX9_daysUnlike_66 : decode cX9_daysUnlike 66 = .ok (.iload_n 3, 1) := by decide +kernel
theorem dX9_daysUnlike_67 : decode cX9_daysUnlike 67 = .ok (.iload 6, 2) := by decide +kernel
theorem dX9_daysUnlike_69 : decode cX9_daysUnlike 69 = .ok (.iload 4, 2) := by decide +kernel
theorem dX9_daysUnlike_71 : decode cX9_daysUnlike 71 = .ok (.isub, 1) := by decide +kernel
theorem dX9_daysUnlike_72 : decode cX9_daysUnlike 72 = .ok (.iadd, 1) := by decide +kernel
theorem dX9_daysUnlike_73 : decode cX9_daysUnlike 73 = .ok (.istore_n 3, 1) := by decide +kernel
theorem dX9_daysUnlike_74 : decode cX9_daysUnlike 74 = .ok (.iload 6, 2) := by decide +kernel
theorem dX9_daysUnlike_76 : decode cX9_daysUnlike 76 = .ok (.istore 4, 2) := by decide +kernel
theorem dX9_daysUnlike_78 : decode cX9_daysUnlike 78 = .ok (.iinc 5 1, 3) := by decide +kernel
theorem dX9_daysUnlike_81 : decode cX9_daysUnlike 81 = .ok (.goto (-73), 3) := by decide +kernel
theorem dX9_daysUnlike_84 : decode cX9_daysUnlike 84 = .ok (.iload_n 3, 1) := by decide +kernel
theorem dX9_daysUnlike_85 : decode cX9_daysUnlike 85 = .ok (.ireturn, 1) := by decide +kernel
set_option maxRecDepth 20000 in
theorem ggX9_firstDayAlike_X9_areAlikeOn : GoodIn wsX9_firstDayAlike wsX9_areAlikeOn := goodIn_r _ [6, 7, 8, 9, 10, 5, 11, 1, 12, 13, 14, 15, 16, 17, 18, 19, 20, 21, 22, 23, 24, 25, 26, 27, 28, 29, 34, 35, 36, 37, 38, 39, 40] (by decide +kernel) (by decide +kernel)
set_option maxRecDepth 20000 in
theorem gX9_firstDayAlike_X9_areAlikeOn : GoodIn wsX9_firstDayAlike (wsV RX9 80 RX9 yX9_areAlikeOn wsX9_areAlikeOn) := goodIn_app (goodIn_of _ (by decide +kernel)) ggX9_firstDayAlike_X9_areAlikeOn
set_option maxRecDepth 20000 in
theorem ggX9_firstDayAlike_X6_nextDayOfAny : GoodIn wsX9_firstDayAlike wsX6_nextDayOfAny := goodIn_r _ [33, 18, 20, 38, 39, 40] (by decide +kernel) (by decide +kernel)
set_option maxRecDepth 20000 in
theorem gX9_firstDayAlike_X6_nextDayOfAny : GoodIn wsX9_firstDayAlike (wsV RX9 83 RX6 yX6_nextDayOfAny wsX6_nextDayOfAny) := goodIn_app (goodIn_of _ (by decide +kernel)) ggX9_firstDayAlike_X6_nextDayOfAny
theorem dX9_firstDayAlike_0 : decode cX9_firstDayAlike 0 = .ok (.iload_n 1, 1) := by decide +kernel
theorem dX9_firstDayAlike_1 : decode cX9_firstDayAlike 1 = .ok (.istore_n 2, 1) := by decide +kernel
theorem dX9_firstDayAlike_2 : decode cX9_firstDayAlike 2 = .ok (.iconst 0, 1) := by decide +kernel
theorem dX9_firstDayAlike_3 : decode cX9_firstDayAlike 3 = .ok (.istore_n 3, 1) := by decide +kernel
theorem dX9_firstDayAlike_4 : decode cX9_firstDayAlike 4 = .ok (.iload_n 3, 1) := by decide +kernel
theorem dX9_firstDayAlike_5 : decode cX9_firstDayAlike 5 = .ok (.sipush 400, 3) := by decide +kernel
theorem dX9_firstDayAlike_8 : decode cX9_firstDayAlike 8 = .ok (.if_icmp .ge 35, 3) := by decide +kernel
theorem dX9_firstDayAlike_11 : decode cX9_firstDayAlike 11 = .ok (.iload_n 2, 1) := by decide +kernel
theorem dX9_firstDayAlike_12 : decode cX9_firstDayAlike 12 = .ok (.sipush 400, 3) := by decide +kernel
theorem dX9_firstDayAlike_15 : decode cX9_firstDayAlike 15 = .ok (.if_icmp .ge 28, 3) := by decide +kernel
theorem dX9_firstDayAlike_18 : decode cX9_firstDayAlike 18 = .ok (.aload_n 0, 1) := by decide +kernel
theorem dX9_firstDayAlike_19 : decode cX9_firstDayAlike 19 = .ok (.iload_n 2, 1) := by decide +kernel
theorem dX9_firstDayAlike_20 : decode cX9_firstDayAlike 20 = .ok (.invokevirtual 80, 3) := by decide +kernel
theorem dX9_firstDayAlike_23 : decode cX9_firstDayAlike 23 = .ok (.ifCond .eq 5, 3) := by decide +kernel
theorem dX9_firstDayAlike_26 : decode cX9_firstDayAlike 26 = .ok (.iload_n 2, 1) := by decide +kernel
theorem dX9_firstDayAlike_27 : decode cX9_firstDayAlike 27 = .ok (.ireturn, 1) := by decide +kernel
theorem dX9_firstDayAlike_28 : decode cX9_firstDayAlike 28 = .ok (.aload_n 0, 1) := by decide +kernel
theorem dX9_firstDayAlike_29 : decode cX9_firstDayAlike 29 = .ok (.getfield 24, 3) := by decide +kernel
theorem dX9_firstDayAlike_32 : decode cX9_firstDayAlike 32 = .ok (.iload_n 2, 1) := by decide +kernel
theorem dX9_firstDayAlike_33 : decode cX9_firstDayAlike 33 = .ok (.invokevirtual 83, 3) := by decide +kernel
theorem dX9_firstDayAlike_36 : decode cX9_firstDayAlike 36 = .ok (.istore_n 2, 1) := by decide +kernel
theorem dX9_firstDayAlike_37 : decode cX9_firstDayAlike 37 = .ok (.iinc 3 1, 3) := by decide +kernel
theorem dX9_firstDayAlike_40 : decode cX9_firstDayAlike 40 = .ok (.goto (-36), 3) := by decide +kernel
theorem dX9_firstDayAlike_43 : decode cX9_firstDayAlike 43 = .ok (.iconst (-1), 1) := by decide +kernel
theorem dX9_firstDayAlike_44 : decode cX9_firstDayAlike 44 = .ok (.ireturn, 1) := by decide +kernel
set_option maxRecDepth 20000 in
theorem ggX9_areAlikeOn_X9_shiftOn : GoodIn wsX9_areAlikeOn wsX9_shiftOn := goodIn_r _ [6, 7, 8, 9, 10, 11, 12, 13, 14, 15, 16, 17, 18, 19, 5, 20, 21, 22, 23, 24, 25, 1, 26, 27, 28, 29, 30, 31, 32] (by decide +kernel) (by decide +kernel)
set_option maxRecDepth 20000 in
theorem gX9_areAlikeOn_X9_shiftOn : GoodIn wsX9_areAlikeOn (wsV RX9 55 RX9 yX9_shiftOn wsX9_shiftOn) := goodIn_app (goodIn_of _ (by decide +kernel)) ggX9_areAlikeOn_X9_shiftOn
theorem dX9_areAlikeOn_0 : decode cX9_areAlikeOn 0 = .ok (.aload_n 0, 1) := by decide +kernel
theorem dX9_areAlikeOn_1 : decode cX9_areAlikeOn 1 = .ok (.iconst 0, 1) := by decide +kernel
theorem dX9_areAlikeOn_2 : decode cX9_areAlikeOn 2 = .ok (.iload_n 1, 1) := by decide +kernel
theorem dX9_areAlikeOn_3 : decode cX9_areAlikeOn 3 = .ok (.invokevirtual 55, 3) := by decide +kernel
theorem dX9_areAlikeOn_6 : decode cX9_areAlikeOn 6 = .ok (.istore_n 2, 1) := by decide +kernel
theorem dX9_areAlikeOn_7 : decode cX9_areAlikeOn 7 = .ok (.iconst 1, 1) := by decide +kernel
theorem dX9_areAlikeOn_8 : decode cX9_areAlikeOn 8 = .ok (.istore_n 3, 1) := by decide +kernel
theorem dX9_areAlikeOn_9 : decode cX9_areAlikeOn 9 = .ok (.iload_n 3, 1) := by decide +kernel
theorem dX9_areAlikeOn_10 : decode cX9_areAlikeOn 10 = .ok (.aload_n 0, 1) := by decide +kernel
theorem dX9_areAlikeOn_11 : decode cX9_areAlikeOn 11 = .ok (.getfield 15, 3) := by decide +kernel
theorem dX9_areAlikeOn_14 : decode cX9_areAlikeOn 14 = .ok (.if_icmp .ge 21, 3) := by decide +kernel
theorem dX9_areAlikeOn_17 : decode cX9_areAlikeOn 17 = .ok (.aload_n 0, 1) := by decide +kernel
theorem dX9_areAlikeOn_18 : decode cX9_areAlikeOn 18 = .ok (.iload_n 3, 1) := by decide +kernel
theorem dX9_areAlikeOn_19 : decode cX9_areAlikeOn 19 = .ok (.iload_n 1, 1) := by decide +kernel
theorem dX9_areAlikeOn_20 : decode cX9_areAlikeOn 20 = .ok (.invokevirtual 55, 3) := by decide +kernel
theorem dX9_areAlikeOn_23 : decode cX9_areAlikeOn 23 = .ok (.iload_n 2, 1) := by decide +kernel
theorem dX9_areAlikeOn_24 : decode cX9_areAlikeOn 24 = .ok (.if_icmp .eq 5, 3) := by decide +kernel
theorem dX9_areAlikeOn_27 : decode cX9_areAlikeOn 27 = .ok (.iconst 0, 1) := by decide +kernel
theorem dX9_areAlikeOn_28 : decode cX9_areAlikeOn 28 = .ok (.ireturn, 1) := by decide +kernel
theorem dX9_areAlikeOn_29 : decode cX9_areAlikeOn 29 = .ok (.iinc 3 1, 3) := by decide +kernel
theorem dX9_areAlikeOn_32 : decode cX9_areAlikeOn 32 = .ok (.goto (-23), 3) := by decide +kernel
theorem dX9_areAlikeOn_35 : decode cX9_areAlikeOn 35 = .ok (.iconst 1, 1) := by decide +kernel
theorem dX9_areAlikeOn_36 : decode cX9_areAlikeOn 36 = .ok (.ireturn, 1) := by decide +kernel
set_option maxRecDepth 20000 in
theorem ggX10_init_X9_init : GoodIn wsX10_init wsX9_init := goodIn_r _ [37, 38, 2, 3, 39, 40, 41, 42, 43, 44, 45, 46, 47, 48, 49, 50, 51, 52, 53, 54, 55, 56, 57, 125, 126, 127, 128, 167, 168, 169] (by decide +kernel) (by decide +kernel)
set_option maxRecDepth 20000 in
theorem gX10_init_X9_init_n11 : GoodIn wsX10_init (wsX9_init) := ggX10_init_X9_init
set_option maxRecDepth 20000 in
theorem ggX10_init_X3_init : GoodIn wsX10_init wsX3_init := goodIn_r _ [59, 60, 2, 3, 61, 39, 62, 63, 64, 65, 66, 67, 68, 69, 137, 138, 139, 140, 141, 142, 143, 144] (by decide +kernel) (by decide +kernel)
set_option maxRecDepth 20000 in
theorem gX10_init_X3_init_n18 : GoodIn wsX10_init (wsX3_init) := ggX10_init_X3_init
set_option maxRecDepth 20000 in
theorem ggX10_init_X0_init : GoodIn wsX10_init wsX0_init := goodIn_r _ [71, 72, 2, 3, 73, 39, 74, 75, 76, 77, 78, 79, 145, 146, 147, 148, 149, 150] (by decide +kernel) (by decide +kernel)
set_option maxRecDepth 20000 in
theorem gX10_init_X0_init_n25 : GoodIn wsX10_init (wsX0_init) := ggX10_init_X0_init
set_option maxRecDepth 20000 in
theorem ggX10_init_X7_init : GoodIn wsX10_init wsX7_init := goodIn_r _ [81, 82, 2, 3, 39, 83, 84, 151, 152] (by decide +kernel) (by decide +kernel)
set_option maxRecDepth 20000 in
theorem gX10_init_X7_init_n32 : GoodIn wsX10_init (wsX7_init) := ggX10_init_X7_init
set_option maxRecDepth 20000 in
theorem ggX10_init_X2_init : GoodIn wsX10_init wsX2_init := goodIn_r _ [86, 87, 2, 3, 88, 43, 44, 89, 90, 91, 92, 93, 39, 94, 95, 96, 48, 49, 50, 51, 52, 53, 54, 55, 56, 57, 97, 98, 99, 100, 101, 102, 103, 104, 105, 167, 168, 169, 153, 154, 155, 156, 170, 171, 172, 173, 174, 175] (by decide +kernel) (by decide +kernel)
set_option maxRecDepth 20000 in
theorem gX10_init_X2_init_n39 : GoodIn wsX10_init (wsX2_init) := ggX10_init_X2_init
set_option maxRecDepth 20000 in
theorem ggX10_init_X8_init : GoodIn wsX10_init wsX8_init := goodIn_r _ [107, 108, 2, 3, 109, 39, 110, 111, 112, 157, 158, 159, 160] (by decide +kernel) (by decide +kernel)
set_option maxRecDepth 20000 in
theorem gX10_init_X8_init_n46 : GoodIn wsX10_init (wsX8_init) := ggX10_init_X8_init
set_option maxRecDepth 20000 in
theorem ggX10_init_X4_init : GoodIn wsX10_init wsX4_init := goodIn_r _ [114, 115, 2, 3, 39, 116, 117, 118, 119, 161, 162, 163, 164] (by decide +kernel) (by decide +kernel)
set_option maxRecDepth 20000 in
theorem gX10_init_X4_init_n53 : GoodIn wsX10_init (wsX4_init) := ggX10_init_X4_init
set_option maxRecDepth 20000 in
theorem ggX10_init_X5_init : GoodIn wsX10_init wsX5_init := goodIn_r _ [121, 122, 2, 3, 39, 123, 124, 165, 166] (by decide +kernel) (by decide +kernel)
set_option maxRecDepth 20000 in
theorem gX10_init_X5_init_n60 : GoodIn wsX10_init (wsX5_init) := ggX10_init_X5_init
theorem dX10_init_0 : decode cX10_init 0 = .ok (.aload_n 0, 1) := by decide +kernel
theorem dX10_init_1 : decode cX10_init 1 = .ok (.invokespecial 3, 3) := by decide +kernel
theorem dX10_init_4 : decode cX10_init 4 = .ok (.aload_n 0, 1) := by decide +kernel
theorem dX10_init_5 : decode cX10_init 5 = .ok (.new 9, 3) := by decide +kernel
theorem dX10_init_8 : decode cX10_init 8 = .ok (.dup, 1) := by decide +kernel
theorem dX10_init_9 : decode cX10_init 9 = .ok (.invokespecial 11, 3) := by decide +kernel
theorem dX10_init_12 : decode cX10_init 12 = .ok (.putfield 12, 3) := by decide +kernel
theorem dX10_init_15 : decode cX10_init 15 = .ok (.aload_n 0, 1) := by decide +kernel
theorem dX10_init_16 : decode cX10_init 16 = .ok (.new 16, 3) := by decide +kernel
theorem dX10_init_19 : decode cX10_init 19 = .ok (.dup, 1) := by decide +kernel
theorem dX10_init_20 : decode cX10_init 20 = .ok (.invokespecial 18, 3) := by decide +kernel
theorem dX10_init_23 : decode cX10_init 23 = .ok (.putfield 19, 3) := by decide +kernel
theorem dX10_init_26 : decode cX10_init 26 = .ok (.aload_n 0, 1) := by decide +kernel
theorem dX10_init_27 : decode cX10_init 27 = .ok (.new 23, 3) := by decide +kernel
theorem dX10_init_30 : decode cX10_init 30 = .ok (.dup, 1) := by decide +kernel
theorem dX10_init_31 : decode cX10_init 31 = .ok (.invokespecial 25, 3) := by decide +kernel
theorem dX10_init_34 : decode cX10_init 34 = .ok (.putfield 26, 3) := by decide +kernel
theorem dX10_init_37 : decode cX10_init 37 = .ok (.aload_n 0, 1) := by decide +kernel
theorem dX10_init_38 : decode cX10_init 38 = .ok (.new 30, 3) := by decide +kernel
theorem dX10_init_41 : decode cX10_init 41 = .ok (.dup, 1) := by decide +kernel
theorem dX10_init_42 : decode cX10_init 42 = .ok (.invokespecial 32, 3) := by decide +kernel
theorem dX10_init_45 : decode cX10_init 45 = .ok (.putfield 33, 3) := by decide +kernel
theorem dX10_init_48 : decode cX10_init 48 = .ok (.aload_n 0, 1) := by decide +kernel
theorem dX10_init_49 : decode cX10_init 49 = .ok (.new 37, 3) := by decide +kernel
theorem dX10_init_52 : decode cX10_init 52 = .ok (.dup, 1) := by decide +kernel
theorem dX10_init_53 : decode cX10_init 53 = .ok (.invokespecial 39, 3) := by decide +kernel
theorem dX10_init_56 : decode cX10_init 56 = .ok (.putfield 40, 3) := by decide +kernel
theorem dX10_init_59 : decode cX10_init 59 = .ok (.aload_n 0, 1) := by decide +kernel
theorem dX10_init_60 : decode cX10_init 60 = .ok (.new 44, 3) := by decide +kernel
theorem dX10_init_63 : decode cX10_init 63 = .ok (.dup, 1) := by decide +kernel
theorem dX10_init_64 : decode cX10_init 64 = .ok (.invokespecial 46, 3) := by decide +kernel
theorem dX10_init_67 : decode cX10_init 67 = .ok (.putfield 47, 3) := by decide +kernel
theorem dX10_init_70 : decode cX10_init 70 = .ok (.aload_n 0, 1) := by decide +kernel
theorem dX10_init_71 : decode cX10_init 71 = .ok (.new 51, 3) := by decide +kernel
theorem dX10_init_74 : decode cX10_init 74 = .ok (.dup, 1) := by decide +kernel
theorem dX10_init_75 : decode cX10_init 75 = .ok (.invokespecial 53, 3) := by decide +kernel
theorem dX10_init_78 : decode cX10_init 78 = .ok (.putfield 54, 3) := by decide +kernel
theorem dX10_init_81 : decode cX10_init 81 = .ok (.aload_n 0, 1) := by decide +kernel
theorem dX10_init_82 : decode cX10_init 82 = .ok (.new 58, 3) := by decide +kernel
theorem dX10_init_85 : decode cX10_init 85 = .ok (.dup, 1) := by decide +kernel
theorem dX10_init_86 : decode cX10_init 86 = .ok (.invokespecial 60, 3) := by decide +kernel
theorem dX10_init_89 : decode cX10_init 89 = .ok (.putfield 61, 3) := by decide +kernel
theorem dX10_init_92 : decode cX10_init 92 = .ok (.return_, 1) := by decide +kernel
set_option maxRecDepth 20000 in
theorem ggX10_town_X9_settle : GoodIn wsX10_town wsX9_settle := goodIn_r _ [6, 7, 8, 17, 18, 19, 20] (by decide +kernel) (by decide +kernel)
set_option maxRecDepth 20000 in
theorem gX10_town_X9_settle : GoodIn wsX10_town (wsV RX10 65 RX9 yX9_settle wsX9_settle) := goodIn_app (goodIn_of _ (by decide +kernel)) ggX10_town_X9_settle
theorem dX10_town_0 : decode cX10_town 0 = .ok (.iload_n 1, 1) := by decide +kernel
theorem dX10_town_1 : decode cX10_town 1 = .ok (.sipush (-720), 3) := by decide +kernel
theorem dX10_town_4 : decode cX10_town 4 = .ok (.if_icmp .lt 10, 3) := by decide +kernel
theorem dX10_town_7 : decode cX10_town 7 = .ok (.iload_n 1, 1) := by decide +kernel
theorem dX10_town_8 : decode cX10_town 8 = .ok (.sipush 720, 3) := by decide +kernel
theorem dX10_town_11 : decode cX10_town 11 = .ok (.if_icmp .le 5, 3) := by decide +kernel
theorem dX10_town_14 : decode cX10_town 14 = .ok (.iconst (-1), 1) := by decide +kernel
theorem dX10_town_15 : decode cX10_town 15 = .ok (.ireturn, 1) := by decide +kernel
theorem dX10_town_16 : decode cX10_town 16 = .ok (.aload_n 0, 1) := by decide +kernel
theorem dX10_town_17 : decode cX10_town 17 = .ok (.getfield 12, 3) := by decide +kernel
theorem dX10_town_20 : decode cX10_town 20 = .ok (.iload_n 1, 1) := by decide +kernel
theorem dX10_town_21 : decode cX10_town 21 = .ok (.invokevirtual 65, 3) := by decide +kernel
theorem dX10_town_24 : decode cX10_town 24 = .ok (.ireturn, 1) := by decide +kernel
set_option maxRecDepth 20000 in
theorem ggX10_clock_X9_has : GoodIn wsX10_clock wsX9_has := goodIn_r _ [6, 7, 53, 54, 55, 56] (by decide +kernel) (by decide +kernel)
set_option maxRecDepth 20000 in
theorem gX10_clock_X9_has : GoodIn wsX10_clock (wsV RX10 69 RX9 yX9_has wsX9_has) := goodIn_app (goodIn_of _ (by decide +kernel)) ggX10_clock_X9_has
set_option maxRecDepth 20000 in
theorem ggX10_clock_X10_isDay : GoodIn wsX10_clock wsX10_isDay := goodIn_r _ [11] (by decide +kernel) (by decide +kernel)
set_option maxRecDepth 20000 in
theorem gX10_clock_X10_isDay : GoodIn wsX10_clock (va_wsS RX10 73 yX10_isDay wsX10_isDay) := goodIn_app (goodIn_of _ (by decide +kernel)) ggX10_clock_X10_isDay
set_option maxRecDepth 20000 in
theorem ggX10_clock_X9_isClock : GoodIn wsX10_clock wsX9_isClock := goodIn_r _ [15, 16, 3, 4, 5, 6, 7, 53, 54, 55, 56] (by decide +kernel) (by decide +kernel)
set_option maxRecDepth 20000 in
theorem gX10_clock_X9_isClock : GoodIn wsX10_clock (wsV RX10 76 RX9 yX9_isClock wsX9_isClock) := goodIn_app (goodIn_of _ (by decide +kernel)) ggX10_clock_X9_isClock
set_option maxRecDepth 20000 in
theorem ggX10_clock_X9_shiftOfKind : GoodIn wsX10_clock wsX9_shiftOfKind := goodIn_r _ [20, 21, 22, 23, 5, 24, 25, 16, 3, 4, 6, 7, 53, 54, 55, 56] (by decide +kernel) (by decide +kernel)
set_option maxRecDepth 20000 in
theorem gX10_clock_X9_shiftOfKind : GoodIn wsX10_clock (wsV RX10 80 RX9 yX9_shiftOfKind wsX9_shiftOfKind) := goodIn_app (goodIn_of _ (by decide +kernel)) ggX10_clock_X9_shiftOfKind
set_option maxRecDepth 20000 in
theorem ggX10_clock_X9_tellClock : GoodIn wsX10_clock wsX9_tellClock := goodIn_r _ [29, 30, 31, 32, 33, 34, 35, 36, 37, 38, 39, 40, 41, 42, 43, 44, 53, 54, 55, 56, 57, 58, 59] (by decide +kernel) (by decide +kernel)
set_option maxRecDepth 20000 in
theorem gX10_clock_X9_tellClock : GoodIn wsX10_clock (wsV RX10 84 RX9 yX9_tellClock wsX9_tellClock) := goodIn_app (goodIn_of _ (by decide +kernel)) ggX10_clock_X9_tellClock
theorem dX10_clock_0 : decode cX10_clock 0 = .ok (.aload_n 0, 1) := by decide +kernel
theorem dX10_clock_1 : decode cX10_clock 1 = .ok (.getfield 12, 3) := by decide +kernel
theorem dX10_clock_4 : decode cX10_clock 4 = .ok (.iload_n 1, 1) := by decide +kernel
theorem dX10_clock_5 : decode cX10_clock 5 = .ok (.invokevirtual 69, 3) := by decide +kernel
theorem dX10_clock_8 : decode cX10_clock 8 = .ok (.ifCond .eq 24, 3) := by decide +kernel
theorem dX10_clock_11 : decode cX10_clock 11 = .ok (.iload_n 2, 1) := by decide +kernel
theorem dX10_clock_12 : decode cX10_clock 12 = .ok (.invokestatic 73, 3) := by decide +kernel
theorem dX10_clock_15 : decode cX10_clock 15 = .ok (.ifCond .eq 17, 3) := by decide +kernel
theorem dX10_clock_18 : decode cX10_clock 18 = .ok (.aload_n 0, 1) := by decide +kernel
theorem dX10_clock_19 : decode cX10_clock 19 = .ok (.getfield 12, 3) := by decide +kernel
theorem dX10_clock_22 : decode cX10_clock 22 = .ok (.iload_n 1, 1) := by decide +kernel
theorem dX10_clock_23 : decode cX10_clock 23 = .ok (.iload_n 3, 1) := by decide +kernel
theorem dX10_clock_24 : decode cX10_clock 24 = .ok (.iload 4, 2) := by decide +kernel
theorem dX10_clock_26 : decode cX10_clock 26 = .ok (.invokevirtual 76, 3) := by decide +kernel
theorem dX10_clock_29 : decode cX10_clock 29 = .ok (.ifCond .ne 5, 3) := by decide +kernel
theorem dX10_clock_32 : decode cX10_clock 32 = .ok (.iconst (-1), 1) := by decide +kernel
theorem dX10_clock_33 : decode cX10_clock 33 = .ok (.ireturn, 1) := by decide +kernel
theorem dX10_clock_34 : decode cX10_clock 34 = .ok (.aload_n 0, 1) := by decide +kernel
theorem dX10_clock_35 : decode cX10_clock 35 = .ok (.getfield 12, 3) := by decide +kernel
theorem dX10_clock_38 : decode cX10_clock 38 = .ok (.iload_n 1, 1) := by decide +kernel
theorem dX10_clock_39 : decode cX10_clock 39 = .ok (.iload_n 2, 1) := by decide +kernel
theorem dX10_clock_40 : decode cX10_clock 40 = .ok (.aload_n 0, 1) := by decide +kernel
theorem dX10_clock_41 : decode cX10_clock 41 = .ok (.getfield 12, 3) := by decide +kernel
theorem dX10_clock_44 : decode cX10_clock 44 = .ok (.iload_n 1, 1) := by decide +kernel
theorem dX10_clock_45 : decode cX10_clock 45 = .ok (.iload_n 3, 1) := by decide +kernel
theorem dX10_clock_46 : decode cX10_clock 46 = .ok (.iload 4, 2) := by decide +kernel
theorem dX10_clock_48 : decode cX10_clock 48 = .ok (.invokevirtual 80, 3) := by decide +kernel
theorem dX10_clock_51 : decode cX10_clock 51 = .ok (.invokevirtual 84, 3) := by decide +kernel
theorem dX10_clock_54 : decode cX10_clock 54 = .ok (.ireturn, 1) := by decide +kernel
set_option maxRecDepth 20000 in
theorem ggX10_untell_X9_takeClockBack : GoodIn wsX10_untell wsX9_takeClockBack := goodIn_r _ [6, 7, 8, 9, 10, 11, 12, 13, 14, 23, 24, 25, 26, 27, 28, 29] (by decide +kernel) (by decide +kernel)
set_option maxRecDepth 20000 in
theorem gX10_untell_X9_takeClockBack : GoodIn wsX10_untell (wsV RX10 87 RX9 yX9_takeClockBack wsX9_takeClockBack) := goodIn_app (goodIn_of _ (by decide +kernel)) ggX10_untell_X9_takeClockBack
theorem dX10_untell_0 : decode cX10_untell 0 = .ok (.aload_n 0, 1) := by decide +kernel
theorem dX10_untell_1 : decode cX10_untell 1 = .ok (.getfield 12, 3) := by decide +kernel
theorem dX10_untell_4 : decode cX10_untell 4 = .ok (.invokevirtual 87, 3) := by decide +kernel
theorem dX10_untell_7 : decode cX10_untell 7 = .ok (.ireturn, 1) := by decide +kernel
theorem dX10_count_0 : decode cX10_count 0 = .ok (.iload_n 1, 1) := by decide +kernel
theorem dX10_count_1 : decode cX10_count 1 = .ok (.tableswitch 117 0 7 #[47, 55, 66, 74, 82, 93, 101, 109], 47) := by decide +kernel
theorem dX10_count_48 : decode cX10_count 48 = .ok (.aload_n 0, 1) := by decide +kernel
theorem dX10_count_49 : decode cX10_count 49 = .ok (.getfield 12, 3) := by decide +kernel
theorem dX10_count_52 : decode cX10_count 52 = .ok (.getfield 91, 3) := by decide +kernel
theorem dX10_count_55 : decode cX10_count 55 = .ok (.ireturn, 1) := by decide +kernel
theorem dX10_count_56 : decode cX10_count 56 = .ok (.aload_n 0, 1) := by decide +kernel
theorem dX10_count_57 : decode cX10_count 57 = .ok (.getfield 12, 3) := by decide +kernel
theorem dX10_count_60 : decode cX10_count 60 = .ok (.getfield 95, 3) := by decide +kernel
theorem dX10_count_63 : decode cX10_count 63 = .ok (.getfield 99, 3) := by decide +kernel
theorem dX10_count_66 : decode cX10_count 66 = .ok (.ireturn, 1) := by decide +kernel
theorem dX10_count_67 : decode cX10_count 67 = .ok (.aload_n 0, 1) := by decide +kernel
theorem dX10_count_68 : decode cX10_count 68 = .ok (.getfield 19, 3) := by decide +kernel
theorem dX10_count_71 : decode cX10_count 71 = .ok (.getfield 102, 3) := by decide +kernel
theorem dX10_count_74 : decode cX10_count 74 = .ok (.ireturn, 1) := by decide +kernel
theorem dX10_count_75 : decode cX10_count 75 = .ok (.aload_n 0, 1) := by decide +kernel
theorem dX10_count_76 : decode cX10_count 76 = .ok (.getfield 19, 3) := by decide +kernel
theorem dX10_count_79 : decode cX10_count 79 = .ok (.getfield 105, 3) := by decide +kernel
theorem dX10_count_82 : decode cX10_count 82 = .ok (.ireturn, 1) := by decide +kernel
theorem dX10_count_83 : decode cX10_count 83 = .ok (.aload_n 0, 1) := by decide +kernel
theorem dX10_count_84 : decode cX10_count 84 = .ok (.getfield 40, 3) := by decide +kernel
theorem dX10_count_87 : decode cX10_count 87 = .ok (.getfield 108, 3) := by decide +kernel
theorem dX10_count_90 : decode cX10_count 90 = .ok (.getfield 99, 3) := by decide +kernel
theorem dX10_count_93 : decode cX10_count 93 = .ok (.ireturn, 1) := by decide +kernel
theorem dX10_count_94 : decode cX10_count 94 = .ok (.aload_n 0, 1) := by decide +kernel
theorem dX10_count_95 : decode cX10_count 95 = .ok (.getfield 47, 3) := by decide +kernel
theorem dX10_count_98 : decode cX10_count 98 = .ok (.getfield 111, 3) := by decide +kernel
theorem dX10_count_101 : decode cX10_count 101 = .ok (.ireturn, 1) := by decide +kernel
theorem dX10_count_102 : decode cX10_count 102 = .ok (.aload_n 0, 1) := by decide +kernel
theorem dX10_count_103 : decode cX10_count 103 = .ok (.getfield 61, 3) := by decide +kernel
theorem dX10_count_106 : decode cX10_count 106 = .ok (.getfield 112, 3) := by decide +kernel
theorem dX10_count_109 : decode cX10_count 109 = .ok (.ireturn, 1) := by decide +kernel
theorem dX10_count_110 : decode cX10_count 110 = .ok (.aload_n 0, 1) := by decide +kernel
theorem dX10_count_111 : decode cX10_count 111 = .ok (.getfield 33, 3) := by decide +kernel
theorem dX10_count_114 : decode cX10_count 114 = .ok (.getfield 113, 3) := by decide +kernel
theorem dX10_count_117 : decode cX10_count 117 = .ok (.ireturn, 1) := by decide +kernel
theorem dX10_count_118 : decode cX10_count 118 = .ok (.iconst (-1), 1) := by decide +kernel
theorem dX10_count_119 : decode cX10_count 119 = .ok (.ireturn, 1) := by decide +kernel
set_option maxRecDepth 20000 in
theorem ggX10_read_X9_has : GoodIn wsX10_read wsX9_has := goodIn_r _ [8, 9, 47, 48, 49, 50] (by decide +kernel) (by decide +kernel)
set_option maxRecDepth 20000 in
theorem gX10_read_X9_has : GoodIn wsX10_read (wsV RX10 69 RX9 yX9_has wsX9_has) := goodIn_app (goodIn_of _ (by decide +kernel)) ggX10_read_X9_has
set_option maxRecDepth 20000 in
theorem ggX10_read_X10_isMinute : GoodIn wsX10_read wsX10_isMinute := goodIn_r _ [13, 14] (by decide +kernel) (by decide +kernel)
set_option maxRecDepth 20000 in
theorem gX10_read_X10_isMinute : GoodIn wsX10_read (va_wsS RX10 114 yX10_isMinute wsX10_isMinute) := goodIn_app (goodIn_of _ (by decide +kernel)) ggX10_read_X10_isMinute
set_option maxRecDepth 20000 in
theorem ggX10_read_X9_readingAt : GoodIn wsX10_read wsX9_readingAt := goodIn_r _ [18, 19, 20, 21, 7, 22, 23, 24, 25, 26, 27, 28, 29, 30, 31, 32, 33, 34, 35, 36, 37, 38, 5, 6, 8, 9, 47, 48, 49, 50, 51, 52, 53] (by decide +kernel) (by decide +kernel)
set_option maxRecDepth 20000 in
theorem gX10_read_X9_readingAt : GoodIn wsX10_read (wsV RX10 124 RX9 yX9_readingAt wsX9_readingAt) := goodIn_app (goodIn_of _ (by decide +kernel)) ggX10_read_X9_readingAt
theorem dX10_read_0 : decode cX10_read 0 = .ok (.aload_n 0, 1) := by decide +kernel
theorem dX10_read_1 : decode cX10_read 1 = .ok (.getfield 12, 3) := by decide +kernel
theorem dX10_read_4 : decode cX10_read 4 = .ok (.iload_n 1, 1) := by decide +kernel
theorem dX10_read_5 : decode cX10_read 5 = .ok (.invokevirtual 69, 3) := by decide +kernel
theorem dX10_read_8 : decode cX10_read 8 = .ok (.ifCond .eq 10, 3) := by decide +kernel
theorem dX10_read_11 : decode cX10_read 11 = .ok (.iload_n 2, 1) := by decide +kernel
theorem dX10_read_12 : decode cX10_read 12 = .ok (.invokestatic 114, 3) := by decide +kernel
theorem dX10_read_15 : decode cX10_read 15 = .ok (.ifCond .ne 13, 3) := by decide +kernel
theorem dX10_read_18 : decode cX10_read 18 = .ok (.new 117, 3) := by decide +kernel
theorem dX10_read_21 : decode cX10_read 21 = .ok (.dup, 1) := by decide +kernel
theorem dX10_read_22 : decode cX10_read 22 = .ok (.ldc 119, 2) := by decide +kernel
theorem dX10_read_24 : decode cX10_read 24 = .ok (.invokespecial 121, 3) := by decide +kernel
theorem dX10_read_27 : decode cX10_read 27 = .ok (.athrow, 1) := by decide +kernel
theorem dX10_read_28 : decode cX10_read 28 = .ok (.aload_n 0, 1) := by decide +kernel
theorem dX10_read_29 : decode cX10_read 29 = .ok (.getfield 12, 3) := by decide +kernel
theorem dX10_read_32 : decode cX10_read 32 = .ok (.iload_n 1, 1) := by decide +kernel
theorem dX10_read_33 : decode cX10_read 33 = .ok (.iload_n 2, 1) := by decide +kernel
theorem dX10_read_34 : decode cX10_read 34 = .ok (.invokevirtual 124, 3) := by decide +kernel
theorem dX10_read_37 : decode cX10_read 37 = .ok (.ireturn, 1) := by decide +kernel
set_option maxRecDepth 20000 in
theorem ggX10_when_X9_has : GoodIn wsX10_when wsX9_has := goodIn_r _ [8, 9, 70, 71, 72, 73] (by decide +kernel) (by decide +kernel)
set_option maxRecDepth 20000 in
theorem gX10_when_X9_has : GoodIn wsX10_when (wsV RX10 69 RX9 yX9_has wsX9_has) := goodIn_app (goodIn_of _ (by decide +kernel)) ggX10_when_X9_has
set_option maxRecDepth 20000 in
theorem ggX10_when_X5_clear : GoodIn wsX10_when wsX5_clear := goodIn_r _ [14, 15, 68, 69] (by decide +kernel) (by decide +kernel)
set_option maxRecDepth 20000 in
theorem gX10_when_X5_clear : GoodIn wsX10_when (wsV RX10 128 RX5 yX5_clear wsX5_clear) := goodIn_app (goodIn_of _ (by decide +kernel)) ggX10_when_X5_clear
set_option maxRecDepth 20000 in
theorem ggX10_when_X9_firstDayNear : GoodIn wsX10_when wsX9_firstDayNear := goodIn_r _ [18, 19, 20, 21, 22, 23] (by decide +kernel) (by decide +kernel)
set_option maxRecDepth 20000 in
theorem gX10_when_X9_firstDayNear : GoodIn wsX10_when (va_wsS RX10 131 yX9_firstDayNear wsX9_firstDayNear) := goodIn_app (goodIn_of _ (by decide +kernel)) ggX10_when_X9_firstDayNear
set_option maxRecDepth 20000 in
theorem ggX10_when_X9_minuteShowing : GoodIn wsX10_when wsX9_minuteShowing := goodIn_r _ [27, 28, 29, 30, 31, 32, 33, 7, 34, 35, 36, 37, 38, 39, 40, 41, 42, 43, 44, 45, 46, 47, 48, 49, 50, 5, 6, 8, 9, 20, 21, 22, 23, 70, 71, 72, 73, 74, 75, 76] (by decide +kernel) (by decide +kernel)
set_option maxRecDepth 20000 in
theorem gX10_when_X9_minuteShowing : GoodIn wsX10_when (wsV RX10 134 RX9 yX9_minuteShowing wsX9_minuteShowing) := goodIn_app (goodIn_of _ (by decide +kernel)) ggX10_when_X9_minuteShowing
set_option maxRecDepth 20000 in
theorem ggX10_when_X5_addMinute : GoodIn wsX10_when wsX5_addMinute := goodIn_r _ [54, 55, 56, 57, 13, 58, 15, 59, 68, 69] (by decide +kernel) (by decide +kernel)
set_option maxRecDepth 20000 in
theorem gX10_when_X5_addMinute : GoodIn wsX10_when (wsV RX10 137 RX5 yX5_addMinute wsX5_addMinute) := goodIn_app (goodIn_of _ (by decide +kernel)) ggX10_when_X5_addMinute
theorem dX10_when_0 : decode cX10_when 0 = .ok (.aload_n 0, 1) := by decide +kernel
theorem dX10_when_1 : decode cX10_when 1 = .ok (.getfield 12, 3) := by decide +kernel
theorem dX10_when_4 : decode cX10_when 4 = .ok (.iload_n 1, 1) := by decide +kernel
theorem dX10_when_5 : decode cX10_when 5 = .ok (.invokevirtual 69, 3) := by decide +kernel
theorem dX10_when_8 : decode cX10_when 8 = .ok (.ifCond .ne 5, 3) := by decide +kernel
theorem dX10_when_11 : decode cX10_when 11 = .ok (.iconst (-1), 1) := by decide +kernel
theorem dX10_when_12 : decode cX10_when 12 = .ok (.ireturn, 1) := by decide +kernel
theorem dX10_when_13 : decode cX10_when 13 = .ok (.aload_n 0, 1) := by decide +kernel
theorem dX10_when_14 : decode cX10_when 14 = .ok (.getfield 61, 3) := by decide +kernel
theorem dX10_when_17 : decode cX10_when 17 = .ok (.invokevirtual 128, 3) := by decide +kernel
theorem dX10_when_20 : decode cX10_when 20 = .ok (.iload_n 2, 1) := by decide +kernel
theorem dX10_when_21 : decode cX10_when 21 = .ok (.invokestatic 131, 3) := by decide +kernel
theorem dX10_when_24 : decode cX10_when 24 = .ok (.istore_n 3, 1) := by decide +kernel
theorem dX10_when_25 : decode cX10_when 25 = .ok (.aload_n 0, 1) := by decide +kernel
theorem dX10_when_26 : decode cX10_when 26 = .ok (.getfield 61, 3) := by decide +kernel
theorem dX10_when_29 : decode cX10_when 29 = .ok (.aload_n 0, 1) := by decide +kernel
theorem dX10_when_30 : decode cX10_when 30 = .ok (.getfield 12, 3) := by decide +kernel
theorem dX10_when_33 : decode cX10_when 33 = .ok (.iload_n 1, 1) := by decide +kernel
theorem dX10_when_34 : decode cX10_when 34 = .ok (.iload_n 3, 1) := by decide +kernel
theorem dX10_when_35 : decode cX10_when 35 = .ok (.iload_n 2, 1) := by decide +kernel
theorem dX10_when_36 : decode cX10_when 36 = .ok (.invokevirtual 134, 3) := by decide +kernel
theorem dX10_when_39 : decode cX10_when 39 = .ok (.invokevirtual 137, 3) := by decide +kernel
theorem dX10_when_42 : decode cX10_when 42 = .ok (.aload_n 0, 1) := by decide +kernel
theorem dX10_when_43 : decode cX10_when 43 = .ok (.getfield 61, 3) := by decide +kernel
theorem dX10_when_46 : decode cX10_when 46 = .ok (.aload_n 0, 1) := by decide +kernel
theorem dX10_when_47 : decode cX10_when 47 = .ok (.getfield 12, 3) := by decide +kernel
theorem dX10_when_50 : decode cX10_when 50 = .ok (.iload_n 1, 1) := by decide +kernel
theorem dX10_when_51 : decode cX10_when 51 = .ok (.iload_n 3, 1) := by decide +kernel
theorem dX10_when_52 : decode cX10_when 52 = .ok (.iconst 1, 1) := by decide +kernel
theorem dX10_when_53 : decode cX10_when 53 = .ok (.iadd, 1) := by decide +kernel
theorem dX10_when_54 : decode cX10_when 54 = .ok (.iload_n 2, 1) := by decide +kernel
theorem dX10_when_55 : decode cX10_when 55 = .ok (.invokevirtual 134, 3) := by decide +kernel
theorem dX10_when_58 : decode cX10_when 58 = .ok (.invokevirtual 137, 3) := by decide +kernel
theorem dX10_when_61 : decode cX10_when 61 = .ok (.aload_n 0, 1) := by decide +kernel
theorem dX10_when_62 : decode cX10_when 62 = .ok (.getfield 61, 3) := by decide +kernel
theorem dX10_when_65 : decode cX10_when 65 = .ok (.getfield 112, 3) := by decide +kernel
theorem dX10_when_68 : decode cX10_when 68 = .ok (.ireturn, 1) := by decide +kernel
set_option maxRecDepth 20000 in
theorem ggX10_turned_X9_has : GoodIn wsX10_turned wsX9_has := goodIn_r _ [8, 9, 61, 62, 63, 64] (by decide +kernel) (by decide +kernel)
set_option maxRecDepth 20000 in
theorem gX10_turned_X9_has : GoodIn wsX10_turned (wsV RX10 69 RX9 yX9_has wsX9_has) := goodIn_app (goodIn_of _ (by decide +kernel)) ggX10_turned_X9_has
set_option maxRecDepth 20000 in
theorem ggX10_turned_X9_firstShowing : GoodIn wsX10_turned wsX9_firstShowing := goodIn_r _ [13, 14, 15, 7, 16, 17, 18, 19, 20, 21, 22, 23, 24, 25, 26, 27, 28, 29, 30, 31, 32, 33, 34, 35, 36, 37, 38, 39, 40, 41, 42, 43, 44, 45, 46, 47, 48, 5, 6, 8, 9, 61, 62, 63, 64, 65, 66, 67] (by decide +kernel) (by decide +kernel)
set_option maxRecDepth 20000 in
theorem gX10_turned_X9_firstShowing : GoodIn wsX10_turned (wsV RX10 143 RX9 yX9_firstShowing wsX9_firstShowing) := goodIn_app (goodIn_of _ (by decide +kernel)) ggX10_turned_X9_firstShowing
set_option maxRecDepth 20000 in
theorem ggX10_turned_X9_readingAt : GoodIn wsX10_turned wsX9_readingAt := goodIn_r _ [52, 29, 30, 31, 7, 32, 33, 34, 35, 36, 37, 38, 39, 40, 41, 42, 43, 44, 45, 46, 47, 48, 5, 6, 8, 9, 61, 62, 63, 64, 65, 66, 67] (by decide +kernel) (by decide +kernel)
set_option maxRecDepth 20000 in
theorem gX10_turned_X9_readingAt : GoodIn wsX10_turned (wsV RX10 124 RX9 yX9_readingAt wsX9_readingAt) := goodIn_app (goodIn_of _ (by decide +kernel)) ggX10_turned_X9_readingAt
theorem dX10_turned_0 : decode cX10_turned 0 = .ok (.aload_n 0, 1) := by decide +kernel
theorem dX10_turned_1 : decode cX10_turned 1 = .ok (.getfield 12, 3) := by decide +kernel
theorem dX10_turned_4 : decode cX10_turned 4 = .ok (.iload_n 1, 1) := by decide +kernel
theorem dX10_turned_5 : decode cX10_turned 5 = .ok (.invokevirtual 69, 3) := by decide +kernel
theorem dX10_turned_8 : decode cX10_turned 8 = .ok (.ifCond .eq 14, 3) := by decide +kernel
theorem dX10_turned_11 : decode cX10_turned 11 = .ok (.aload_n 0, 1) := by decide +kernel
theorem dX10_turned_12 : decode cX10_turned 12 = .ok (.getfield 12, 3) := by decide +kernel
theorem dX10_turned_15 : decode cX10_turned 15 = .ok (.iload_n 3, 1) := by decide +kernel
theorem dX10_turned_16 : decode cX10_turned 16 = .ok (.invokevirtual 69, 3) := by decide +kernel
theorem dX10_turned_19 : decode cX10_turned 19 = .ok (.ifCond .ne 13, 3) := by decide +kernel
theorem dX10_turned_22 : decode cX10_turned 22 = .ok (.new 117, 3) := by decide +kernel
theorem dX10_turned_25 : decode cX10_turned 25 = .ok (.dup, 1) := by decide +kernel
theorem dX10_turned_26 : decode cX10_turned 26 = .ok (.ldc 141, 2) := by decide +kernel
theorem dX10_turned_28 : decode cX10_turned 28 = .ok (.invokespecial 121, 3) := by decide +kernel
theorem dX10_turned_31 : decode cX10_turned 31 = .ok (.athrow, 1) := by decide +kernel
theorem dX10_turned_32 : decode cX10_turned 32 = .ok (.aload_n 0, 1) := by decide +kernel
theorem dX10_turned_33 : decode cX10_turned 33 = .ok (.getfield 12, 3) := by decide +kernel
theorem dX10_turned_36 : decode cX10_turned 36 = .ok (.iload_n 1, 1) := by decide +kernel
theorem dX10_turned_37 : decode cX10_turned 37 = .ok (.iload_n 2, 1) := by decide +kernel
theorem dX10_turned_38 : decode cX10_turned 38 = .ok (.invokevirtual 143, 3) := by decide +kernel
theorem dX10_turned_41 : decode cX10_turned 41 = .ok (.istore 4, 2) := by decide +kernel
theorem dX10_turned_43 : decode cX10_turned 43 = .ok (.iload 4, 2) := by decide +kernel
theorem dX10_turned_45 : decode cX10_turned 45 = .ok (.iconst (-1), 1) := by decide +kernel
theorem dX10_turned_46 : decode cX10_turned 46 = .ok (.if_icmp .ne 13, 3) := by decide +kernel
theorem dX10_turned_49 : decode cX10_turned 49 = .ok (.new 117, 3) := by decide +kernel
theorem dX10_turned_52 : decode cX10_turned 52 = .ok (.dup, 1) := by decide +kernel
theorem dX10_turned_53 : decode cX10_turned 53 = .ok (.ldc 146, 2) := by decide +kernel
theorem dX10_turned_55 : decode cX10_turned 55 = .ok (.invokespecial 121, 3) := by decide +kernel
theorem dX10_turned_58 : decode cX10_turned 58 = .ok (.athrow, 1) := by decide +kernel
theorem dX10_turned_59 : decode cX10_turned 59 = .ok (.aload_n 0, 1) := by decide +kernel
theorem dX10_turned_60 : decode cX10_turned 60 = .ok (.getfield 12, 3) := by decide +kernel
theorem dX10_turned_63 : decode cX10_turned 63 = .ok (.iload_n 3, 1) := by decide +kernel
theorem dX10_turned_64 : decode cX10_turned 64 = .ok (.iload 4, 2) := by decide +kernel
theorem dX10_turned_66 : decode cX10_turned 66 = .ok (.invokevirtual 124, 3) := by decide +kernel
theorem dX10_turned_69 : decode cX10_turned 69 = .ok (.ireturn, 1) := by decide +kernel
set_option maxRecDepth 20000 in
theorem ggX10_unlike_X9_has : GoodIn wsX10_unlike wsX9_has := goodIn_r _ [6, 7, 48, 49, 50, 51] (by decide +kernel) (by decide +kernel)
set_option maxRecDepth 20000 in
theorem gX10_unlike_X9_has : GoodIn wsX10_unlike (wsV RX10 69 RX9 yX9_has wsX9_has) := goodIn_app (goodIn_of _ (by decide +kernel)) ggX10_unlike_X9_has
set_option maxRecDepth 20000 in
theorem ggX10_unlike_X9_daysUnlike : GoodIn wsX10_unlike wsX9_daysUnlike := goodIn_r _ [11, 12, 13, 14, 15, 16, 17, 18, 19, 20, 21, 22, 23, 24, 25, 26, 27, 5, 28, 29, 30, 31, 32, 33, 34, 35, 36, 37, 38, 39, 3, 4, 6, 7, 48, 49, 50, 51, 52, 53, 54] (by decide +kernel) (by decide +kernel)
set_option maxRecDepth 20000 in
theorem gX10_unlike_X9_daysUnlike : GoodIn wsX10_unlike (wsV RX10 148 RX9 yX9_daysUnlike wsX9_daysUnlike) := goodIn_app (goodIn_of _ (by decide +kernel)) ggX10_unlike_X9_daysUnlike
theorem dX10_unlike_0 : decode cX10_unlike 0 = .ok (.aload_n 0, 1) := by decide +kernel
theorem dX10_unlike_1 : decode cX10_unlike 1 = .ok (.getfield 12, 3) := by decide +kernel
theorem dX10_unlike_4 : decode cX10_unlike 4 = .ok (.iload_n 1, 1) := by decide +kernel
theorem dX10_unlike_5 : decode cX10_unlike 5 = .ok (.invokevirtual 69, 3) := by decide +kernel
theorem dX10_unlike_8 : decode cX10_unlike 8 = .ok (.ifCond .eq 14, 3) := by decide +kernel
theorem dX10_unlike_11 : decode cX10_unlike 11 = .ok (.aload_n 0, 1) := by decide +kernel
theorem dX10_unlike_12 : decode cX10_unlike 12 = .ok (.getfield 12, 3) := by decide +kernel
theorem dX10_unlike_15 : decode cX10_unlike 15 = .ok (.iload_n 2, 1) := by decide +kernel
theorem dX10_unlike_16 : decode cX10_unlike 16 = .ok (.invokevirtual 69, 3) := by decide +kernel
theorem dX10_unlike_19 : decode cX10_unlike 19 = .ok (.ifCond .ne 5, 3) := by decide +kernel
theorem dX10_unlike_22 : decode cX10_unlike 22 = .ok (.iconst (-1), 1) := by decide +kernel
theorem dX10_unlike_23 : decode cX10_unlike 23 = .ok (.ireturn, 1) := by decide +kernel
theorem dX10_unlike_24 : decode cX10_unlike 24 = .ok (.aload_n 0, 1) := by decide +kernel
theorem dX10_unlike_25 : decode cX10_unlike 25 = .ok (.getfield 12, 3) := by decide +kernel
theorem dX10_unlike_28 : decode cX10_unlike 28 = .ok (.iload_n 1, 1) := by decide +kernel
theorem dX10_unlike_29 : decode cX10_unlike 29 = .ok (.iload_n 2, 1) := by decide +kernel
theorem dX10_unlike_30 : decode cX10_unlike 30 = .ok (.invokevirtual 148, 3) := by decide +kernel
theorem dX10_unlike_33 : decode cX10_unlike 33 = .ok (.ireturn, 1) := by decide +kernel
set_option maxRecDepth 20000 in
theorem ggX10_one_X10_isDay : GoodIn wsX10_one wsX10_isDay := goodIn_r _ [5] (by decide +kernel) (by decide +kernel)
set_option maxRecDepth 20000 in
theorem gX10_one_X10_isDay : GoodIn wsX10_one (va_wsS RX10 73 yX10_isDay wsX10_isDay) := goodIn_app (goodIn_of _ (by decide +kernel)) ggX10_one_X10_isDay
set_option maxRecDepth 20000 in
theorem ggX10_one_X9_firstDayAlike : GoodIn wsX10_one wsX9_firstDayAlike := goodIn_r _ [10, 11, 12, 13, 14, 9, 15, 16, 17, 18, 19, 20, 21, 22, 23, 24, 25, 26, 27, 28, 29, 30, 31, 32, 33, 34, 35, 36, 37, 38, 39, 40, 41, 42, 51, 52, 53, 54, 55, 56, 57] (by decide +kernel) (by decide +kernel)
set_option maxRecDepth 20000 in
theorem gX10_one_X9_firstDayAlike : GoodIn wsX10_one (wsV RX10 151 RX9 yX9_firstDayAlike wsX9_firstDayAlike) := goodIn_app (goodIn_of _ (by decide +kernel)) ggX10_one_X9_firstDayAlike
theorem dX10_one_0 : decode cX10_one 0 = .ok (.iload_n 1, 1) := by decide +kernel
theorem dX10_one_1 : decode cX10_one 1 = .ok (.invokestatic 73, 3) := by decide +kernel
theorem dX10_one_4 : decode cX10_one 4 = .ok (.ifCond .eq 14, 3) := by decide +kernel
theorem dX10_one_7 : decode cX10_one 7 = .ok (.aload_n 0, 1) := by decide +kernel
theorem dX10_one_8 : decode cX10_one 8 = .ok (.getfield 12, 3) := by decide +kernel
theorem dX10_one_11 : decode cX10_one 11 = .ok (.iload_n 1, 1) := by decide +kernel
theorem dX10_one_12 : decode cX10_one 12 = .ok (.invokevirtual 151, 3) := by decide +kernel
theorem dX10_one_15 : decode cX10_one 15 = .ok (.goto 4, 3) := by decide +kernel
theorem dX10_one_18 : decode cX10_one 18 = .ok (.iconst (-1), 1) := by decide +kernel
theorem dX10_one_19 : decode cX10_one 19 = .ok (.ireturn, 1) := by decide +kernel
set_option maxRecDepth 20000 in
theorem ggX10_station_X9_has : GoodIn wsX10_station wsX9_has := goodIn_r _ [7, 8, 26, 27, 28, 29] (by decide +kernel) (by decide +kernel)
set_option maxRecDepth 20000 in
theorem gX10_station_X9_has : GoodIn wsX10_station (wsV RX10 69 RX9 yX9_has wsX9_has) := goodIn_app (goodIn_of _ (by decide +kernel)) ggX10_station_X9_has
set_option maxRecDepth 20000 in
theorem ggX10_station_X3_build : GoodIn wsX10_station wsX3_build := goodIn_r _ [13, 14, 15, 16, 17, 30, 31, 32, 33, 34, 35, 36, 37] (by decide +kernel) (by decide +kernel)
set_option maxRecDepth 20000 in
theorem gX10_station_X3_build : GoodIn wsX10_station (wsV RX10 154 RX3 yX3_build wsX3_build) := goodIn_app (goodIn_of _ (by decide +kernel)) ggX10_station_X3_build
theorem dX10_station_0 : decode cX10_station 0 = .ok (.aload_n 0, 1) := by decide +kernel
theorem dX10_station_1 : decode cX10_station 1 = .ok (.getfield 12, 3) := by decide +kernel
theorem dX10_station_4 : decode cX10_station 4 = .ok (.iload_n 1, 1) := by decide +kernel
theorem dX10_station_5 : decode cX10_station 5 = .ok (.invokevirtual 69, 3) := by decide +kernel
theorem dX10_station_8 : decode cX10_station 8 = .ok (.ifCond .ne 5, 3) := by decide +kernel
theorem dX10_station_11 : decode cX10_station 11 = .ok (.iconst (-1), 1) := by decide +kernel
theorem dX10_station_12 : decode cX10_station 12 = .ok (.ireturn, 1) := by decide +kernel
theorem dX10_station_13 : decode cX10_station 13 = .ok (.aload_n 0, 1) := by decide +kernel
theorem dX10_station_14 : decode cX10_station 14 = .ok (.getfield 19, 3) := by decide +kernel
theorem dX10_station_17 : decode cX10_station 17 = .ok (.iload_n 1, 1) := by decide +kernel
theorem dX10_station_18 : decode cX10_station 18 = .ok (.iload_n 2, 1) := by decide +kernel
theorem dX10_station_19 : decode cX10_station 19 = .ok (.invokevirtual 154, 3) := by decide +kernel
theorem dX10_station_22 : decode cX10_station 22 = .ok (.ireturn, 1) := by decide +kernel
set_option maxRecDepth 20000 in
theorem ggX10_train_X10_isDay : GoodIn wsX10_train wsX10_isDay := goodIn_r _ [6] (by decide +kernel) (by decide +kernel)
set_option maxRecDepth 20000 in
theorem gX10_train_X10_isDay : GoodIn wsX10_train (va_wsS RX10 73 yX10_isDay wsX10_isDay) := goodIn_app (goodIn_of _ (by decide +kernel)) ggX10_train_X10_isDay
set_option maxRecDepth 20000 in
theorem ggX10_train_X10_isTimeOfDay : GoodIn wsX10_train wsX10_isTimeOfDay := goodIn_r _ [9] (by decide +kernel) (by decide +kernel)
set_option maxRecDepth 20000 in
theorem gX10_train_X10_isTimeOfDay : GoodIn wsX10_train (va_wsS RX10 157 yX10_isTimeOfDay wsX10_isTimeOfDay) := goodIn_app (goodIn_of _ (by decide +kernel)) ggX10_train_X10_isTimeOfDay
set_option maxRecDepth 20000 in
theorem ggX10_train_X3_takesTrains : GoodIn wsX10_train wsX3_takesTrains := goodIn_r _ [14, 15, 16, 83, 84, 85, 86, 87, 88, 89, 90] (by decide +kernel) (by decide +kernel)
set_option maxRecDepth 20000 in
theorem gX10_train_X3_takesTrains : GoodIn wsX10_train (wsV RX10 160 RX3 yX3_takesTrains wsX3_takesTrains) := goodIn_app (goodIn_of _ (by decide +kernel)) ggX10_train_X3_takesTrains
set_option maxRecDepth 20000 in
theorem ggX10_train_X3_firstTown : GoodIn wsX10_train wsX3_firstTown := goodIn_r _ [20, 15, 21, 22, 23, 24, 13, 25, 83, 84, 85, 86, 87, 88, 89, 90] (by decide +kernel) (by decide +kernel)
set_option maxRecDepth 20000 in
theorem gX10_train_X3_firstTown : GoodIn wsX10_train (wsV RX10 164 RX3 yX3_firstTown wsX3_firstTown) := goodIn_app (goodIn_of _ (by decide +kernel)) ggX10_train_X3_firstTown
set_option maxRecDepth 20000 in
theorem ggX10_train_X9_firstShowing : GoodIn wsX10_train wsX9_firstShowing := goodIn_r _ [30, 31, 32, 29, 33, 34, 35, 36, 37, 38, 39, 40, 41, 42, 4, 5, 6, 43, 44, 45, 46, 47, 48, 49, 50, 51, 52, 53, 54, 55, 56, 57, 58, 59, 60, 61, 62, 63, 64, 65, 66, 91, 92, 93, 94, 95, 96, 97] (by decide +kernel) (by decide +kernel)
set_option maxRecDepth 20000 in
theorem gX10_train_X9_firstShowing : GoodIn wsX10_train (wsV RX10 143 RX9 yX9_firstShowing wsX9_firstShowing) := goodIn_app (goodIn_of _ (by decide +kernel)) ggX10_train_X9_firstShowing
set_option maxRecDepth 20000 in
theorem ggX10_train_X3_addTrain : GoodIn wsX10_train wsX3_addTrain := goodIn_r _ [70, 16, 71, 72, 73, 74, 83, 84, 85, 86, 87, 88, 89, 90] (by decide +kernel) (by decide +kernel)
set_option maxRecDepth 20000 in
theorem gX10_train_X3_addTrain : GoodIn wsX10_train (wsV RX10 168 RX3 yX3_addTrain wsX3_addTrain) := goodIn_app (goodIn_of _ (by decide +kernel)) ggX10_train_X3_addTrain
theorem dX10_train_0 : decode cX10_train 0 = .ok (.iload_n 2, 1) := by decide +kernel
theorem dX10_train_1 : decode cX10_train 1 = .ok (.invokestatic 73, 3) := by decide +kernel
theorem dX10_train_4 : decode cX10_train 4 = .ok (.ifCond .eq 32, 3) := by decide +kernel
theorem dX10_train_7 : decode cX10_train 7 = .ok (.iload_n 3, 1) := by decide +kernel
theorem dX10_train_8 : decode cX10_train 8 = .ok (.invokestatic 157, 3) := by decide +kernel
theorem dX10_train_11 : decode cX10_train 11 = .ok (.ifCond .eq 25, 3) := by decide +kernel
theorem dX10_train_14 : decode cX10_train 14 = .ok (.iload 4, 2) := by decide +kernel
theorem dX10_train_16 : decode cX10_train 16 = .ok (.ifCond .lt 20, 3) := by decide +kernel
theorem dX10_train_19 : decode cX10_train 19 = .ok (.iload 4, 2) := by decide +kernel
theorem dX10_train_21 : decode cX10_train 21 = .ok (.bipush 60, 2) := by decide +kernel
theorem dX10_train_23 : decode cX10_train 23 = .ok (.if_icmp .gt 13, 3) := by decide +kernel
theorem dX10_train_26 : decode cX10_train 26 = .ok (.aload_n 0, 1) := by decide +kernel
theorem dX10_train_27 : decode cX10_train 27 = .ok (.getfield 19, 3) := by decide +kernel
theorem dX10_train_30 : decode cX10_train 30 = .ok (.invokevirtual 160, 3) := by decide +kernel
theorem dX10_train_33 : decode cX10_train 33 = .ok (.ifCond .ne 5, 3) := by decide +kernel
theorem dX10_train_36 : decode cX10_train 36 = .ok (.iconst (-1), 1) := by decide +kernel
theorem dX10_train_37 : decode cX10_train 37 = .ok (.ireturn, 1) := by decide +kernel
theorem dX10_train_38 : decode cX10_train 38 = .ok (.aload_n 0, 1) := by decide +kernel
theorem dX10_train_39 : decode cX10_train 39 = .ok (.getfield 12, 3) := by decide +kernel
theorem dX10_train_42 : decode cX10_train 42 = .ok (.aload_n 0, 1) := by decide +kernel
theorem dX10_train_43 : decode cX10_train 43 = .ok (.getfield 19, 3) := by decide +kernel
theorem dX10_train_46 : decode cX10_train 46 = .ok (.iload_n 1, 1) := by decide +kernel
theorem dX10_train_47 : decode cX10_train 47 = .ok (.invokevirtual 164, 3) := by decide +kernel
theorem dX10_train_50 : decode cX10_train 50 = .ok (.iload_n 2, 1) := by decide +kernel
theorem dX10_train_51 : decode cX10_train 51 = .ok (.sipush 1440, 3) := by decide +kernel
theorem dX10_train_54 : decode cX10_train 54 = .ok (.imul, 1) := by decide +kernel
theorem dX10_train_55 : decode cX10_train 55 = .ok (.iload_n 3, 1) := by decide +kernel
theorem dX10_train_56 : decode cX10_train 56 = .ok (.iadd, 1) := by decide +kernel
theorem dX10_train_57 : decode cX10_train 57 = .ok (.invokevirtual 143, 3) := by decide +kernel
theorem dX10_train_60 : decode cX10_train 60 = .ok (.istore 5, 2) := by decide +kernel
theorem dX10_train_62 : decode cX10_train 62 = .ok (.iload 5, 2) := by decide +kernel
theorem dX10_train_64 : decode cX10_train 64 = .ok (.iconst (-1), 1) := by decide +kernel
theorem dX10_train_65 : decode cX10_train 65 = .ok (.if_icmp .ne 7, 3) := by decide +kernel
theorem dX10_train_68 : decode cX10_train 68 = .ok (.iconst (-1), 1) := by decide +kernel
theorem dX10_train_69 : decode cX10_train 69 = .ok (.goto 15, 3) := by decide +kernel
theorem dX10_train_72 : decode cX10_train 72 = .ok (.aload_n 0, 1) := by decide +kernel
theorem dX10_train_73 : decode cX10_train 73 = .ok (.getfield 19, 3) := by decide +kernel
theorem dX10_train_76 : decode cX10_train 76 = .ok (.iload_n 1, 1) := by decide +kernel
theorem dX10_train_77 : decode cX10_train 77 = .ok (.iload 5, 2) := by decide +kernel
theorem dX10_train_79 : decode cX10_train 79 = .ok (.iload 4, 2) := by decide +kernel
theorem dX10_train_81 : decode cX10_train 81 = .ok (.invokevirtual 168, 3) := by decide +kernel
theorem dX10_train_84 : decode cX10_train 84 = .ok (.ireturn, 1) := by decide +kernel
set_option maxRecDepth 20000 in
theorem ggX10_leaves_X3_hasTrain : GoodIn wsX10_leaves wsX3_hasTrain := goodIn_r _ [7, 8, 32, 33, 34, 35, 36, 37, 38, 39] (by decide +kernel) (by decide +kernel)
set_option maxRecDepth 20000 in
theorem gX10_leaves_X3_hasTrain : GoodIn wsX10_leaves (wsV RX10 172 RX3 yX3_hasTrain wsX3_hasTrain) := goodIn_app (goodIn_of _ (by decide +kernel)) ggX10_leaves_X3_hasTrain
set_option maxRecDepth 20000 in
theorem ggX10_leaves_X3_hasStation : GoodIn wsX10_leaves wsX3_hasStation := goodIn_r _ [12, 13, 32, 33, 34, 35, 36, 37, 38, 39] (by decide +kernel) (by decide +kernel)
set_option maxRecDepth 20000 in
theorem gX10_leaves_X3_hasStation : GoodIn wsX10_leaves (wsV RX10 175 RX3 yX3_hasStation wsX3_hasStation) := goodIn_app (goodIn_of _ (by decide +kernel)) ggX10_leaves_X3_hasStation
set_option maxRecDepth 20000 in
theorem ggX10_leaves_X3_plannedAt : GoodIn wsX10_leaves wsX3_plannedAt := goodIn_r _ [17, 13, 18, 19, 20, 21, 22, 4, 5, 6, 7, 8, 23, 10, 11, 12, 32, 33, 34, 35, 36, 37, 38, 39] (by decide +kernel) (by decide +kernel)
set_option maxRecDepth 20000 in
theorem gX10_leaves_X3_plannedAt : GoodIn wsX10_leaves (wsV RX10 178 RX3 yX3_plannedAt wsX3_plannedAt) := goodIn_app (goodIn_of _ (by decide +kernel)) ggX10_leaves_X3_plannedAt
theorem dX10_leaves_0 : decode cX10_leaves 0 = .ok (.aload_n 0, 1) := by decide +kernel
theorem dX10_leaves_1 : decode cX10_leaves 1 = .ok (.getfield 19, 3) := by decide +kernel
theorem dX10_leaves_4 : decode cX10_leaves 4 = .ok (.iload_n 1, 1) := by decide +kernel
theorem dX10_leaves_5 : decode cX10_leaves 5 = .ok (.invokevirtual 172, 3) := by decide +kernel
theorem dX10_leaves_8 : decode cX10_leaves 8 = .ok (.ifCond .eq 14, 3) := by decide +kernel
theorem dX10_leaves_11 : decode cX10_leaves 11 = .ok (.aload_n 0, 1) := by decide +kernel
theorem dX10_leaves_12 : decode cX10_leaves 12 = .ok (.getfield 19, 3) := by decide +kernel
theorem dX10_leaves_15 : decode cX10_leaves 15 = .ok (.iload_n 2, 1) := by decide +kernel
theorem dX10_leaves_16 : decode cX10_leaves 16 = .ok (.invokevirtual 175, 3) := by decide +kernel
theorem dX10_leaves_19 : decode cX10_leaves 19 = .ok (.ifCond .ne 5, 3) := by decide +kernel
theorem dX10_leaves_22 : decode cX10_leaves 22 = .ok (.iconst (-1), 1) := by decide +kernel
theorem dX10_leaves_23 : decode cX10_leaves 23 = .ok (.ireturn, 1) := by decide +kernel
theorem dX10_leaves_24 : decode cX10_leaves 24 = .ok (.aload_n 0, 1) := by decide +kernel
theorem dX10_leaves_25 : decode cX10_leaves 25 = .ok (.getfield 19, 3) := by decide +kernel
theorem dX10_leaves_28 : decode cX10_leaves 28 = .ok (.iload_n 1, 1) := by decide +kernel
theorem dX10_leaves_29 : decode cX10_leaves 29 = .ok (.iload_n 2, 1) := by decide +kernel
theorem dX10_leaves_30 : decode cX10_leaves 30 = .ok (.invokevirtual 178, 3) := by decide +kernel
theorem dX10_leaves_33 : decode cX10_leaves 33 = .ok (.aload_n 0, 1) := by decide +kernel
theorem dX10_leaves_34 : decode cX10_leaves 34 = .ok (.getfield 19, 3) := by decide +kernel
theorem dX10_leaves_37 : decode cX10_leaves 37 = .ok (.getfield 181, 3) := by decide +kernel
theorem dX10_leaves_40 : decode cX10_leaves 40 = .ok (.iload_n 1, 1) := by decide +kernel
theorem dX10_leaves_41 : decode cX10_leaves 41 = .ok (.iaload, 1) := by decide +kernel
theorem dX10_leaves_42 : decode cX10_leaves 42 = .ok (.iadd, 1) := by decide +kernel
theorem dX10_leaves_43 : decode cX10_leaves 43 = .ok (.ireturn, 1) := by decide +kernel
set_option maxRecDepth 20000 in
theorem ggX10_delay_X3_hasTrain : GoodIn wsX10_delay wsX3_hasTrain := goodIn_r _ [7, 8, 17, 18, 19, 20, 21, 22, 23, 24] (by decide +kernel) (by decide +kernel)
set_option maxRecDepth 20000 in
theorem gX10_delay_X3_hasTrain : GoodIn wsX10_delay (wsV RX10 172 RX3 yX3_hasTrain wsX3_hasTrain) := goodIn_app (goodIn_of _ (by decide +kernel)) ggX10_delay_X3_hasTrain
theorem dX10_delay_0 : decode cX10_delay 0 = .ok (.aload_n 0, 1) := by decide +kernel
theorem dX10_delay_1 : decode cX10_delay 1 = .ok (.getfield 19, 3) := by decide +kernel
theorem dX10_delay_4 : decode cX10_delay 4 = .ok (.iload_n 1, 1) := by decide +kernel
theorem dX10_delay_5 : decode cX10_delay 5 = .ok (.invokevirtual 172, 3) := by decide +kernel
theorem dX10_delay_8 : decode cX10_delay 8 = .ok (.ifCond .eq 13, 3) := by decide +kernel
theorem dX10_delay_11 : decode cX10_delay 11 = .ok (.iload_n 2, 1) := by decide +kernel
theorem dX10_delay_12 : decode cX10_delay 12 = .ok (.ifCond .lt 9, 3) := by decide +kernel
theorem dX10_delay_15 : decode cX10_delay 15 = .ok (.iload_n 2, 1) := by decide +kernel
theorem dX10_delay_16 : decode cX10_delay 16 = .ok (.bipush 30, 2) := by decide +kernel
theorem dX10_delay_18 : decode cX10_delay 18 = .ok (.if_icmp .le 5, 3) := by decide +kernel
theorem dX10_delay_21 : decode cX10_delay 21 = .ok (.iconst 0, 1) := by decide +kernel
theorem dX10_delay_22 : decode cX10_delay 22 = .ok (.ireturn, 1) := by decide +kernel
theorem dX10_delay_23 : decode cX10_delay 23 = .ok (.aload_n 0, 1) := by decide +kernel
theorem dX10_delay_24 : decode cX10_delay 24 = .ok (.getfield 19, 3) := by decide +kernel
theorem dX10_delay_27 : decode cX10_delay 27 = .ok (.getfield 181, 3) := by decide +kernel
theorem dX10_delay_30 : decode cX10_delay 30 = .ok (.iload_n 1, 1) := by decide +kernel
theorem dX10_delay_31 : decode cX10_delay 31 = .ok (.iload_n 2, 1) := by decide +kernel
theorem dX10_delay_32 : decode cX10_delay 32 = .ok (.iastore, 1) := by decide +kernel
theorem dX10_delay_33 : decode cX10_delay 33 = .ok (.iconst 1, 1) := by decide +kernel
theorem dX10_delay_34 : decode cX10_delay 34 = .ok (.ireturn, 1) := by decide +kernel
set_option maxRecDepth 20000 in
theorem ggX10_meet_X3_firstRunMeeting : GoodIn wsX10_meet wsX3_firstRunMeeting := goodIn_r _ [8, 9, 10, 11, 12, 7, 13, 14, 15, 16, 17, 18, 19, 20, 21, 22, 23, 24, 25, 26, 27, 28, 29, 30, 31, 32, 33, 34, 35, 36, 37, 38, 39, 40, 41, 42, 43, 63, 64, 65, 66, 67, 68, 69, 70] (by decide +kernel) (by decide +kernel)
set_option maxRecDepth 20000 in
theorem gX10_meet_X3_firstRunMeeting : GoodIn wsX10_meet (wsV RX10 185 RX3 yX3_firstRunMeeting wsX3_firstRunMeeting) := goodIn_app (goodIn_of _ (by decide +kernel)) ggX10_meet_X3_firstRunMeeting
set_option maxRecDepth 20000 in
theorem ggX10_meet_X5_clear : GoodIn wsX10_meet wsX5_clear := goodIn_r _ [48, 49, 71, 72] (by decide +kernel) (by decide +kernel)
set_option maxRecDepth 20000 in
theorem gX10_meet_X5_clear : GoodIn wsX10_meet (wsV RX10 128 RX5 yX5_clear wsX5_clear) := goodIn_app (goodIn_of _ (by decide +kernel)) ggX10_meet_X5_clear
set_option maxRecDepth 20000 in
theorem ggX10_meet_X5_add : GoodIn wsX10_meet wsX5_add := goodIn_r _ [53, 49, 54, 71, 72] (by decide +kernel) (by decide +kernel)
set_option maxRecDepth 20000 in
theorem gX10_meet_X5_add : GoodIn wsX10_meet (wsV RX10 188 RX5 yX5_add wsX5_add) := goodIn_app (goodIn_of _ (by decide +kernel)) ggX10_meet_X5_add
theorem dX10_meet_0 : decode cX10_meet 0 = .ok (.iconst 0, 1) := by decide +kernel
theorem dX10_meet_1 : decode cX10_meet 1 = .ok (.istore_n 1, 1) := by decide +kernel
theorem dX10_meet_2 : decode cX10_meet 2 = .ok (.iload_n 1, 1) := by decide +kernel
theorem dX10_meet_3 : decode cX10_meet 3 = .ok (.aload_n 0, 1) := by decide +kernel
theorem dX10_meet_4 : decode cX10_meet 4 = .ok (.getfield 19, 3) := by decide +kernel
theorem dX10_meet_7 : decode cX10_meet 7 = .ok (.getfield 105, 3) := by decide +kernel
theorem dX10_meet_10 : decode cX10_meet 10 = .ok (.if_icmp .ge 78, 3) := by decide +kernel
theorem dX10_meet_13 : decode cX10_meet 13 = .ok (.iload_n 1, 1) := by decide +kernel
theorem dX10_meet_14 : decode cX10_meet 14 = .ok (.iconst 1, 1) := by decide +kernel
theorem dX10_meet_15 : decode cX10_meet 15 = .ok (.iadd, 1) := by decide +kernel
theorem dX10_meet_16 : decode cX10_meet 16 = .ok (.istore_n 2, 1) := by decide +kernel
theorem dX10_meet_17 : decode cX10_meet 17 = .ok (.iload_n 2, 1) := by decide +kernel
theorem dX10_meet_18 : decode cX10_meet 18 = .ok (.aload_n 0, 1) := by decide +kernel
theorem dX10_meet_19 : decode cX10_meet 19 = .ok (.getfield 19, 3) := by decide +kernel
theorem dX10_meet_22 : decode cX10_meet 22 = .ok (.getfield 105, 3) := by decide +kernel
theorem dX10_meet_25 : decode cX10_meet 25 = .ok (.if_icmp .ge 57, 3) := by decide +kernel
theorem dX10_meet_28 : decode cX10_meet 28 = .ok (.aload_n 0, 1) := by decide +kernel
theorem dX10_meet_29 : decode cX10_meet 29 = .ok (.getfield 19, 3) := by decide +kernel
theorem dX10_meet_32 : decode cX10_meet 32 = .ok (.iload_n 1, 1) := by decide +kernel
theorem dX10_meet_33 : decode cX10_meet 33 = .ok (.iload_n 2, 1) := by decide +kernel
theorem dX10_meet_34 : decode cX10_meet 34 = .ok (.invokevirtual 185, 3) := by decide +kernel
theorem dX10_meet_37 : decode cX10_meet 37 = .ok (.istore_n 3, 1) := by decide +kernel
theorem dX10_meet_38 : decode cX10_meet 38 = .ok (.iload_n 3, 1) := by decide +kernel
theorem dX10_meet_39 : decode cX10_meet 39 = .ok (.iconst (-1), 1) := by decide +kernel
theorem dX10_meet_40 : decode cX10_meet 40 = .ok (.if_icmp .eq 36, 3) := by decide +kernel
theorem dX10_meet_43 : decode cX10_meet 43 = .ok (.aload_n 0, 1) := by decide +kernel
theorem dX10_meet_44 : decode cX10_meet 44 = .ok (.getfield 61, 3) := by decide +kernel
theorem dX10_meet_47 : decode cX10_meet 47 = .ok (.invokevirtual 128, 3) := by decide +kernel
theorem dX10_meet_50 : decode cX10_meet 50 = .ok (.aload_n 0, 1) := by decide +kernel
theorem dX10_meet_51 : decode cX10_meet 51 = .ok (.getfield 61, 3) := by decide +kernel
theorem dX10_meet_54 : decode cX10_meet 54 = .ok (.iload_n 1, 1) := by decide +kernel
theorem dX10_meet_55 : decode cX10_meet 55 = .ok (.invokevirtual 188, 3) := by decide +kernel
theorem dX10_meet_58 : decode cX10_meet 58 = .ok (.aload_n 0, 1) := by decide +kernel
theorem dX10_meet_59 : decode cX10_meet 59 = .ok (.getfield 61, 3) := by decide +kernel
theorem dX10_meet_62 : decode cX10_meet 62 = .ok (.iload_n 2, 1) := by decide +kernel
theorem dX10_meet_63 : decode cX10_meet 63 = .ok (.invokevirtual 188, 3) := by decide +kernel
theorem dX10_meet_66 : decode cX10_meet 66 = .ok (.aload_n 0, 1) := by decide +kernel
theorem dX10_meet_67 : decode cX10_meet 67 = .ok (.getfield 61, 3) := by decide +kernel
theorem dX10_meet_70 : decode cX10_meet 70 = .ok (.iload_n 3, 1) := by decide +kernel
theorem dX10_meet_71 : decode cX10_meet 71 = .ok (.invokevirtual 188, 3) := by decide +kernel
theorem dX10_meet_74 : decode cX10_meet 74 = .ok (.iconst 1, 1) := by decide +kernel
theorem dX10_meet_75 : decode cX10_meet 75 = .ok (.ireturn, 1) := by decide +kernel
theorem dX10_meet_76 : decode cX10_meet 76 = .ok (.iinc 2 1, 3) := by decide +kernel
theorem dX10_meet_79 : decode cX10_meet 79 = .ok (.goto (-62), 3) := by decide +kernel
theorem dX10_meet_82 : decode cX10_meet 82 = .ok (.iinc 1 1, 3) := by decide +kernel
theorem dX10_meet_85 : decode cX10_meet 85 = .ok (.goto (-83), 3) := by decide +kernel
theorem dX10_meet_88 : decode cX10_meet 88 = .ok (.iconst 0, 1) := by decide +kernel
theorem dX10_meet_89 : decode cX10_meet 89 = .ok (.ireturn, 1) := by decide +kernel
set_option maxRecDepth 20000 in
theorem ggX10_free_X0_settleBest : GoodIn wsX10_free wsX0_settleBest := goodIn_r _ [7, 8, 9, 10, 11, 12, 13, 14, 15, 16, 17, 18, 19, 20, 6, 21, 22, 23, 24, 25, 26, 27, 28, 29, 30, 31, 32, 33, 34, 35, 36, 37, 38, 39, 40, 41, 42, 43, 44, 45, 46, 47, 48, 49, 50, 51, 52, 53, 54, 55, 56, 57, 58, 59, 60, 61, 62, 63, 64, 65, 66, 67, 68, 69, 70, 71, 72, 73, 74, 75, 76, 77, 78, 79, 80, 81, 90, 91, 92, 93, 94, 95, 96, 97, 98, 99, 100, 101, 102, 103] (by decide +kernel) (by decide +kernel)
set_option maxRecDepth 20000 in
theorem gX10_free_X0_settleBest : GoodIn wsX10_free (wsV RX10 191 RX0 yX0_settleBest wsX0_settleBest) := goodIn_app (goodIn_of _ (by decide +kernel)) ggX10_free_X0_settleBest
theorem dX10_free_0 : decode cX10_free 0 = .ok (.aload_n 0, 1) := by decide +kernel
theorem dX10_free_1 : decode cX10_free 1 = .ok (.getfield 26, 3) := by decide +kernel
theorem dX10_free_4 : decode cX10_free 4 = .ok (.aload_n 0, 1) := by decide +kernel
theorem dX10_free_5 : decode cX10_free 5 = .ok (.getfield 19, 3) := by decide +kernel
theorem dX10_free_8 : decode cX10_free 8 = .ok (.invokevirtual 191, 3) := by decide +kernel
theorem dX10_free_11 : decode cX10_free 11 = .ok (.ireturn, 1) := by decide +kernel
set_option maxRecDepth 20000 in
theorem ggX10_close_X3_clear : GoodIn wsX10_close wsX3_clear := goodIn_r _ [6, 7, 8, 17, 18, 19, 20, 21, 22, 23, 24] (by decide +kernel) (by decide +kernel)
set_option maxRecDepth 20000 in
theorem gX10_close_X3_clear : GoodIn wsX10_close (wsV RX10 195 RX3 yX3_clear wsX3_clear) := goodIn_app (goodIn_of _ (by decide +kernel)) ggX10_close_X3_clear
theorem dX10_close_0 : decode cX10_close 0 = .ok (.aload_n 0, 1) := by decide +kernel
theorem dX10_close_1 : decode cX10_close 1 = .ok (.getfield 19, 3) := by decide +kernel
theorem dX10_close_4 : decode cX10_close 4 = .ok (.invokevirtual 195, 3) := by decide +kernel
theorem dX10_close_7 : decode cX10_close 7 = .ok (.ireturn, 1) := by decide +kernel
set_option maxRecDepth 20000 in
theorem ggX10_sign_X7_addFour : GoodIn wsX10_sign wsX7_addFour := goodIn_r _ [6, 7, 8, 17, 18] (by decide +kernel) (by decide +kernel)
set_option maxRecDepth 20000 in
theorem gX10_sign_X7_addFour : GoodIn wsX10_sign (wsV RX10 197 RX7 yX7_addFour wsX7_addFour) := goodIn_app (goodIn_of _ (by decide +kernel)) ggX10_sign_X7_addFour
theorem dX10_sign_0 : decode cX10_sign 0 = .ok (.aload_n 0, 1) := by decide +kernel
theorem dX10_sign_1 : decode cX10_sign 1 = .ok (.getfield 33, 3) := by decide +kernel
theorem dX10_sign_4 : decode cX10_sign 4 = .ok (.iload_n 1, 1) := by decide +kernel
theorem dX10_sign_5 : decode cX10_sign 5 = .ok (.invokevirtual 197, 3) := by decide +kernel
theorem dX10_sign_8 : decode cX10_sign 8 = .ok (.ireturn, 1) := by decide +kernel
set_option maxRecDepth 20000 in
theorem ggX10_end_X7_cut : GoodIn wsX10_end wsX7_cut := goodIn_r _ [6, 7, 16, 17] (by decide +kernel) (by decide +kernel)
set_option maxRecDepth 20000 in
theorem gX10_end_X7_cut : GoodIn wsX10_end (wsV RX10 200 RX7 yX7_cut wsX7_cut) := goodIn_app (goodIn_of _ (by decide +kernel)) ggX10_end_X7_cut
theorem dX10_end_0 : decode cX10_end 0 = .ok (.aload_n 0, 1) := by decide +kernel
theorem dX10_end_1 : decode cX10_end 1 = .ok (.getfield 33, 3) := by decide +kernel
theorem dX10_end_4 : decode cX10_end 4 = .ok (.iload_n 1, 1) := by decide +kernel
theorem dX10_end_5 : decode cX10_end 5 = .ok (.invokevirtual 200, 3) := by decide +kernel
theorem dX10_end_8 : decode cX10_end 8 = .ok (.ireturn, 1) := by decide +kernel
set_option maxRecDepth 20000 in
theorem ggX10_law_X9_has : GoodIn wsX10_law wsX9_has := goodIn_r _ [8, 9, 104, 105, 106, 107] (by decide +kernel) (by decide +kernel)
set_option maxRecDepth 20000 in
theorem gX10_law_X9_has : GoodIn wsX10_law (wsV RX10 69 RX9 yX9_has wsX9_has) := goodIn_app (goodIn_of _ (by decide +kernel)) ggX10_law_X9_has
set_option maxRecDepth 20000 in
theorem ggX10_law_X10_isDay : GoodIn wsX10_law wsX10_isDay := goodIn_r _ [13] (by decide +kernel) (by decide +kernel)
set_option maxRecDepth 20000 in
theorem gX10_law_X10_isDay : GoodIn wsX10_law (va_wsS RX10 73 yX10_isDay wsX10_isDay) := goodIn_app (goodIn_of _ (by decide +kernel)) ggX10_law_X10_isDay
set_option maxRecDepth 20000 in
theorem ggX10_law_X2_isFull : GoodIn wsX10_law wsX2_isFull := goodIn_r _ [18, 19, 20, 21, 22, 23, 24, 25, 26, 108, 109, 110, 111, 112, 113, 114] (by decide +kernel) (by decide +kernel)
set_option maxRecDepth 20000 in
theorem gX10_law_X2_isFull : GoodIn wsX10_law (wsV RX10 203 RX2 yX2_isFull wsX2_isFull) := goodIn_app (goodIn_of _ (by decide +kernel)) ggX10_law_X2_isFull
set_option maxRecDepth 20000 in
theorem ggX10_law_X2_tell : GoodIn wsX10_law wsX2_tell := goodIn_r _ [30, 31, 19, 32, 33, 34, 35, 36, 37, 15, 16, 17, 18, 20, 21, 22, 23, 24, 25, 26, 38, 39, 40, 41, 42, 43, 44, 45, 46, 47, 48, 49, 50, 51, 52, 53, 54, 55, 56, 57, 58, 59, 60, 61, 62, 63, 64, 65, 66, 67, 68, 69, 70, 71, 72, 73, 74, 75, 12, 76, 77, 78, 79, 80, 81, 82, 83, 84, 85, 86, 87, 88, 89, 90, 91, 108, 109, 110, 111, 112, 113, 114, 115, 116, 117, 118, 119, 120, 121, 122] (by decide +kernel) (by decide +kernel)
set_option maxRecDepth 20000 in
theorem gX10_law_X2_tell : GoodIn wsX10_law (wsV RX10 206 RX2 yX2_tell wsX2_tell) := goodIn_app (goodIn_of _ (by decide +kernel)) ggX10_law_X2_tell
set_option maxRecDepth 20000 in
theorem ggX10_law_X7_clear : GoodIn wsX10_law wsX7_clear := goodIn_r _ [95, 56, 121, 122] (by decide +kernel) (by decide +kernel)
set_option maxRecDepth 20000 in
theorem gX10_law_X7_clear : GoodIn wsX10_law (wsV RX10 210 RX7 yX7_clear wsX7_clear) := goodIn_app (goodIn_of _ (by decide +kernel)) ggX10_law_X7_clear
theorem dX10_law_0 : decode cX10_law 0 = .ok (.aload_n 0, 1) := by decide +kernel
theorem dX10_law_1 : decode cX10_law 1 = .ok (.getfield 12, 3) := by decide +kernel
theorem dX10_law_4 : decode cX10_law 4 = .ok (.iload_n 1, 1) := by decide +kernel
theorem dX10_law_5 : decode cX10_law 5 = .ok (.invokevirtual 69, 3) := by decide +kernel
theorem dX10_law_8 : decode cX10_law 8 = .ok (.ifCond .eq 20, 3) := by decide +kernel
theorem dX10_law_11 : decode cX10_law 11 = .ok (.iload_n 2, 1) := by decide +kernel
theorem dX10_law_12 : decode cX10_law 12 = .ok (.invokestatic 73, 3) := by decide +kernel
theorem dX10_law_15 : decode cX10_law 15 = .ok (.ifCond .eq 13, 3) := by decide +kernel
theorem dX10_law_18 : decode cX10_law 18 = .ok (.aload_n 0, 1) := by decide +kernel
theorem dX10_law_19 : decode cX10_law 19 = .ok (.getfield 40, 3) := by decide +kernel
theorem dX10_law_22 : decode cX10_law 22 = .ok (.invokevirtual 203, 3) := by decide +kernel
theorem dX10_law_25 : decode cX10_law 25 = .ok (.ifCond .eq 7, 3) := by decide +kernel
theorem dX10_law_28 : decode cX10_law 28 = .ok (.iconst 1, 1) := by decide +kernel
theorem dX10_law_29 : decode cX10_law 29 = .ok (.goto 4, 3) := by decide +kernel
theorem dX10_law_32 : decode cX10_law 32 = .ok (.iconst 0, 1) := by decide +kernel
theorem dX10_law_33 : decode cX10_law 33 = .ok (.istore_n 3, 1) := by decide +kernel
theorem dX10_law_34 : decode cX10_law 34 = .ok (.iload_n 3, 1) := by decide +kernel
theorem dX10_law_35 : decode cX10_law 35 = .ok (.ifCond .eq 8, 3) := by decide +kernel
theorem dX10_law_38 : decode cX10_law 38 = .ok (.bipush (-100), 2) := by decide +kernel
theorem dX10_law_40 : decode cX10_law 40 = .ok (.goto 16, 3) := by decide +kernel
theorem dX10_law_43 : decode cX10_law 43 = .ok (.aload_n 0, 1) := by decide +kernel
theorem dX10_law_44 : decode cX10_law 44 = .ok (.getfield 40, 3) := by decide +kernel
theorem dX10_law_47 : decode cX10_law 47 = .ok (.iload_n 1, 1) := by decide +kernel
theorem dX10_law_48 : decode cX10_law 48 = .ok (.iload_n 2, 1) := by decide +kernel
theorem dX10_law_49 : decode cX10_law 49 = .ok (.aload_n 0, 1) := by decide +kernel
theorem dX10_law_50 : decode cX10_law 50 = .ok (.getfield 33, 3) := by decide +kernel
theorem dX10_law_53 : decode cX10_law 53 = .ok (.invokevirtual 206, 3) := by decide +kernel
theorem dX10_law_56 : decode cX10_law 56 = .ok (.istore 4, 2) := by decide +kernel
theorem dX10_law_58 : decode cX10_law 58 = .ok (.aload_n 0, 1) := by decide +kernel
theorem dX10_law_59 : decode cX10_law 59 = .ok (.getfield 33, 3) := by decide +kernel
theorem dX10_law_62 : decode cX10_law 62 = .ok (.invokevirtual 210, 3) := by decide +kernel
theorem dX10_law_65 : decode cX10_law 65 = .ok (.iload 4, 2) := by decide +kernel
theorem dX10_law_67 : decode cX10_law 67 = .ok (.ireturn, 1) := by decide +kernel
set_option maxRecDepth 20000 in
theorem ggX10_judged_X9_has : GoodIn wsX10_judged wsX9_has := goodIn_r _ [8, 9, 79, 80, 81, 82] (by decide +kernel) (by decide +kernel)
set_option maxRecDepth 20000 in
theorem gX10_judged_X9_has : GoodIn wsX10_judged (wsV RX10 69 RX9 yX9_has wsX9_has) := goodIn_app (goodIn_of _ (by decide +kernel)) ggX10_judged_X9_has
set_option maxRecDepth 20000 in
theorem ggX10_judged_X10_isMatter : GoodIn wsX10_judged wsX10_isMatter := goodIn_r _ [13] (by decide +kernel) (by decide +kernel)
set_option maxRecDepth 20000 in
theorem gX10_judged_X10_isMatter : GoodIn wsX10_judged (va_wsS RX10 211 yX10_isMatter wsX10_isMatter) := goodIn_app (goodIn_of _ (by decide +kernel)) ggX10_judged_X10_isMatter
set_option maxRecDepth 20000 in
theorem ggX10_judged_X10_isMinute : GoodIn wsX10_judged wsX10_isMinute := goodIn_r _ [16, 17] (by decide +kernel) (by decide +kernel)
set_option maxRecDepth 20000 in
theorem gX10_judged_X10_isMinute : GoodIn wsX10_judged (va_wsS RX10 114 yX10_isMinute wsX10_isMinute) := goodIn_app (goodIn_of _ (by decide +kernel)) ggX10_judged_X10_isMinute
set_option maxRecDepth 20000 in
theorem ggX10_judged_X10_shiftFor : GoodIn wsX10_judged wsX10_shiftFor := goodIn_r _ [21, 3, 22, 23, 24, 25, 26, 27, 7, 28, 29, 30, 31, 32, 33, 34, 35, 36, 37, 38, 39, 40, 41, 42, 43, 44, 5, 6, 8, 9, 45, 46, 47, 48, 49, 50, 51, 52, 53, 54, 55, 56, 57, 11, 12, 13, 58, 59, 60, 61, 62, 63, 64, 65, 66, 67, 68, 69, 70, 71, 72, 73, 74, 75, 76, 77, 78, 83, 84, 85, 86, 79, 80, 81, 82, 87, 88, 89] (by decide +kernel) (by decide +kernel)
set_option maxRecDepth 20000 in
theorem gX10_judged_X10_shiftFor : GoodIn wsX10_judged (wsV RX10 216 RX10 yX10_shiftFor wsX10_shiftFor) := goodIn_app (goodIn_of _ (by decide +kernel)) ggX10_judged_X10_shiftFor
theorem dX10_judged_0 : decode cX10_judged 0 = .ok (.aload_n 0, 1) := by decide +kernel
theorem dX10_judged_1 : decode cX10_judged 1 = .ok (.getfield 12, 3) := by decide +kernel
theorem dX10_judged_4 : decode cX10_judged 4 = .ok (.iload_n 1, 1) := by decide +kernel
theorem dX10_judged_5 : decode cX10_judged 5 = .ok (.invokevirtual 69, 3) := by decide +kernel
theorem dX10_judged_8 : decode cX10_judged 8 = .ok (.ifCond .eq 17, 3) := by decide +kernel
theorem dX10_judged_11 : decode cX10_judged 11 = .ok (.iload_n 2, 1) := by decide +kernel
theorem dX10_judged_12 : decode cX10_judged 12 = .ok (.invokestatic 211, 3) := by decide +kernel
theorem dX10_judged_15 : decode cX10_judged 15 = .ok (.ifCond .eq 10, 3) := by decide +kernel
theorem dX10_judged_18 : decode cX10_judged 18 = .ok (.iload_n 3, 1) := by decide +kernel
theorem dX10_judged_19 : decode cX10_judged 19 = .ok (.invokestatic 114, 3) := by decide +kernel
theorem dX10_judged_22 : decode cX10_judged 22 = .ok (.ifCond .ne 13, 3) := by decide +kernel
theorem dX10_judged_25 : decode cX10_judged 25 = .ok (.new 117, 3) := by decide +kernel
theorem dX10_judged_28 : decode cX10_judged 28 = .ok (.dup, 1) := by decide +kernel
theorem dX10_judged_29 : decode cX10_judged 29 = .ok (.ldc 214, 2) := by decide +kernel
theorem dX10_judged_31 : decode cX10_judged 31 = .ok (.invokespecial 121, 3) := by decide +kernel
theorem dX10_judged_34 : decode cX10_judged 34 = .ok (.athrow, 1) := by decide +kernel
theorem dX10_judged_35 : decode cX10_judged 35 = .ok (.iload_n 3, 1) := by decide +kernel
theorem dX10_judged_36 : decode cX10_judged 36 = .ok (.aload_n 0, 1) := by decide +kernel
theorem dX10_judged_37 : decode cX10_judged 37 = .ok (.iload_n 1, 1) := by decide +kernel
theorem dX10_judged_38 : decode cX10_judged 38 = .ok (.iload_n 2, 1) := by decide +kernel
theorem dX10_judged_39 : decode cX10_judged 39 = .ok (.iload_n 3, 1) := by decide +kernel
theorem dX10_judged_40 : decode cX10_judged 40 = .ok (.sipush 1440, 3) := by decide +kernel
theorem dX10_judged_43 : decode cX10_judged 43 = .ok (.idiv, 1) := by decide +kernel
theorem dX10_judged_44 : decode cX10_judged 44 = .ok (.invokevirtual 216, 3) := by decide +kernel
theorem dX10_judged_47 : decode cX10_judged 47 = .ok (.iadd, 1) := by decide +kernel
theorem dX10_judged_48 : decode cX10_judged 48 = .ok (.ireturn, 1) := by decide +kernel
set_option maxRecDepth 20000 in
theorem ggX10_late_X9_has : GoodIn wsX10_late wsX9_has := goodIn_r _ [10, 11, 95, 96, 97, 98] (by decide +kernel) (by decide +kernel)
set_option maxRecDepth 20000 in
theorem gX10_late_X9_has : GoodIn wsX10_late (wsV RX10 69 RX9 yX9_has wsX9_has) := goodIn_app (goodIn_of _ (by decide +kernel)) ggX10_late_X9_has
set_option maxRecDepth 20000 in
theorem ggX10_late_X10_isMatter : GoodIn wsX10_late wsX10_isMatter := goodIn_r _ [15] (by decide +kernel) (by decide +kernel)
set_option maxRecDepth 20000 in
theorem gX10_late_X10_isMatter : GoodIn wsX10_late (va_wsS RX10 211 yX10_isMatter wsX10_isMatter) := goodIn_app (goodIn_of _ (by decide +kernel)) ggX10_late_X10_isMatter
set_option maxRecDepth 20000 in
theorem ggX10_late_X10_isDay : GoodIn wsX10_late wsX10_isDay := goodIn_r _ [18] (by decide +kernel) (by decide +kernel)
set_option maxRecDepth 20000 in
theorem gX10_late_X10_isDay : GoodIn wsX10_late (va_wsS RX10 73 yX10_isDay wsX10_isDay) := goodIn_app (goodIn_of _ (by decide +kernel)) ggX10_late_X10_isDay
set_option maxRecDepth 20000 in
theorem ggX10_late_X10_isTimeOfDay : GoodIn wsX10_late wsX10_isTimeOfDay := goodIn_r _ [21] (by decide +kernel) (by decide +kernel)
set_option maxRecDepth 20000 in
theorem gX10_late_X10_isTimeOfDay : GoodIn wsX10_late (va_wsS RX10 157 yX10_isTimeOfDay wsX10_isTimeOfDay) := goodIn_app (goodIn_of _ (by decide +kernel)) ggX10_late_X10_isTimeOfDay
set_option maxRecDepth 20000 in
theorem ggX10_late_X10_nextChange : GoodIn wsX10_late wsX10_nextChange := goodIn_r _ [25, 1, 26, 27, 28, 2, 3, 4, 5, 29, 30, 31, 32, 33, 34, 35, 36, 87, 88, 89, 90, 91, 92, 93, 94, 95, 96, 97, 98, 99, 100, 101, 102, 103, 104, 105] (by decide +kernel) (by decide +kernel)
set_option maxRecDepth 20000 in
theorem gX10_late_X10_nextChange : GoodIn wsX10_late (wsV RX10 219 RX10 yX10_nextChange wsX10_nextChange) := goodIn_app (goodIn_of _ (by decide +kernel)) ggX10_late_X10_nextChange
set_option maxRecDepth 20000 in
theorem ggX10_late_X10_shiftFor : GoodIn wsX10_late wsX10_shiftFor := goodIn_r _ [40, 1, 27, 28, 41, 42, 43, 44, 9, 45, 46, 47, 48, 49, 50, 32, 51, 34, 35, 36, 52, 53, 54, 55, 56, 57, 7, 8, 10, 11, 58, 59, 60, 61, 62, 63, 64, 65, 66, 67, 68, 69, 70, 13, 14, 15, 71, 72, 73, 74, 75, 76, 77, 78, 79, 80, 81, 82, 83, 87, 88, 89, 90, 91, 92, 93, 94, 99, 100, 101, 102, 95, 96, 97, 98, 103, 104, 105] (by decide +kernel) (by decide +kernel)
set_option maxRecDepth 20000 in
theorem gX10_late_X10_shiftFor : GoodIn wsX10_late (wsV RX10 216 RX10 yX10_shiftFor wsX10_shiftFor) := goodIn_app (goodIn_of _ (by decide +kernel)) ggX10_late_X10_shiftFor
set_option maxRecDepth 20000 in
theorem ggX10_late_J9_floorMod_7cf53 : GoodIn wsX10_late wsJ9_floorMod_7cf53 := goodIn_r _ [86] (by decide +kernel) (by decide +kernel)
set_option maxRecDepth 20000 in
theorem gX10_late_J9_floorMod_7cf53 : GoodIn wsX10_late (va_wsS RX10 227 yJ9_floorMod_7cf53 wsJ9_floorMod_7cf53) := goodIn_app (goodIn_of _ (by decide +kernel)) ggX10_late_J9_floorMod_7cf53
theorem dX10_late_0 : decode cX10_late 0 = .ok (.aload_n 0, 1) := by decide +kernel
theorem dX10_late_1 : decode cX10_late 1 = .ok (.getfield 12, 3) := by decide +kernel
theorem dX10_late_4 : decode cX10_late 4 = .ok (.iload_n 1, 1) := by decide +kernel
theorem dX10_late_5 : decode cX10_late 5 = .ok (.invokevirtual 69, 3) := by decide +kernel
theorem dX10_late_8 : decode cX10_late 8 = .ok (.ifCond .eq 31, 3) := by decide +kernel
theorem dX10_late_11 : decode cX10_late 11 = .ok (.iload_n 2, 1) := by decide +kernel
theorem dX10_late_12 : decode cX10_late 12 = .ok (.invokestatic 211, 3) := by decide +kernel
theorem dX10_late_15 : decode cX10_late 15 = .ok (.ifCond .eq 24, 3) := by decide +kernel
theorem dX10_late_18 : decode cX10_late 18 = .ok (.iload_n 3, 1) := by decide +kernel
theorem dX10_late_19 : decode cX10_late 19 = .ok (.invokestatic 73, 3) := by decide +kernel
theorem dX10_late_22 : decode cX10_late 22 = .ok (.ifCond .eq 17, 3) := by decide +kernel
theorem dX10_late_25 : decode cX10_late 25 = .ok (.iload 4, 2) := by decide +kernel
theorem dX10_late_27 : decode cX10_late 27 = .ok (.invokestatic 73, 3) := by decide +kernel
theorem dX10_late_30 : decode cX10_late 30 = .ok (.ifCond .eq 9, 3) := by decide +kernel
theorem dX10_late_33 : decode cX10_late 33 = .ok (.iload_n 3, 1) := by decide +kernel
theorem dX10_late_34 : decode cX10_late 34 = .ok (.iload 4, 2) := by decide +kernel
theorem dX10_late_36 : decode cX10_late 36 = .ok (.if_icmp .le 5, 3) := by decide +kernel
theorem dX10_late_39 : decode cX10_late 39 = .ok (.iconst (-1), 1) := by decide +kernel
theorem dX10_late_40 : decode cX10_late 40 = .ok (.ireturn, 1) := by decide +kernel
theorem dX10_late_41 : decode cX10_late 41 = .ok (.iload 5, 2) := by decide +kernel
theorem dX10_late_43 : decode cX10_late 43 = .ok (.invokestatic 157, 3) := by decide +kernel
theorem dX10_late_46 : decode cX10_late 46 = .ok (.ifCond .eq 11, 3) := by decide +kernel
theorem dX10_late_49 : decode cX10_late 49 = .ok (.iload 6, 2) := by decide +kernel
theorem dX10_late_51 : decode cX10_late 51 = .ok (.invokestatic 157, 3) := by decide +kernel
theorem dX10_late_54 : decode cX10_late 54 = .ok (.ifCond .ne 5, 3) := by decide +kernel
theorem dX10_late_57 : decode cX10_late 57 = .ok (.iconst (-1), 1) := by decide +kernel
theorem dX10_late_58 : decode cX10_late 58 = .ok (.ireturn, 1) := by decide +kernel
theorem dX10_late_59 : decode cX10_late 59 = .ok (.iconst 0, 1) := by decide +kernel
theorem dX10_late_60 : decode cX10_late 60 = .ok (.istore 7, 2) := by decide +kernel
theorem dX10_late_62 : decode cX10_late 62 = .ok (.iload_n 3, 1) := by decide +kernel
theorem dX10_late_63 : decode cX10_late 63 = .ok (.istore 8, 2) := by decide +kernel
theorem dX10_late_65 : decode cX10_late 65 = .ok (.iconst 0, 1) := by decide +kernel
theorem dX10_late_66 : decode cX10_late 66 = .ok (.istore 9, 2) := by decide +kernel
theorem dX10_late_68 : decode cX10_late 68 = .ok (.iload 9, 2) := by decide +kernel
theorem dX10_late_70 : decode cX10_late 70 = .ok (.sipush 400, 3) := by decide +kernel
theorem dX10_late_73 : decode cX10_late 73 = .ok (.if_icmp .ge 68, 3) := by decide +kernel
theorem dX10_late_76 : decode cX10_late 76 = .ok (.iload 8, 2) := by decide +kernel
theorem dX10_late_78 : decode cX10_late 78 = .ok (.iload 4, 2) := by decide +kernel
theorem dX10_late_80 : decode cX10_late 80 = .ok (.if_icmp .gt 61, 3) := by decide +kernel
theorem dX10_late_83 : decode cX10_late 83 = .ok (.aload_n 0, 1) := by decide +kernel
theorem dX10_late_84 : decode cX10_late 84 = .ok (.iload_n 1, 1) := by decide +kernel
theorem dX10_late_85 : decode cX10_late 85 = .ok (.iload 8, 2) := by decide +kernel
theorem dX10_late_87 : decode cX10_late 87 = .ok (.invokevirtual 219, 3) := by decide +kernel
theorem dX10_late_90 : decode cX10_late 90 = .ok (.iload 4, 2) := by decide +kernel
theorem dX10_late_92 : decode cX10_late 92 = .ok (.iconst 1, 1) := by decide +kernel
theorem dX10_late_93 : decode cX10_late 93 = .ok (.iadd, 1) := by decide +kernel
theorem dX10_late_94 : decode cX10_late 94 = .ok (.invokestatic 222, 3) := by decide +kernel
theorem dX10_late_97 : decode cX10_late 97 = .ok (.istore 10, 2) := by decide +kernel
theorem dX10_late_99 : decode cX10_late 99 = .ok (.iload 5, 2) := by decide +kernel
theorem dX10_late_101 : decode cX10_late 101 = .ok (.aload_n 0, 1) := by decide +kernel
theorem dX10_late_102 : decode cX10_late 102 = .ok (.iload_n 1, 1) := by decide +kernel
theorem dX10_late_103 : decode cX10_late 103 = .ok (.iload_n 2, 1) := by decide +kernel
theorem dX10_late_104 : decode cX10_late 104 = .ok (.iload 8, 2) := by decide +kernel
theorem dX10_late_106 : decode cX10_late 106 = .ok (.invokevirtual 216, 3) := by decide +kernel
theorem dX10_late_109 : decode cX10_late 109 = .ok (.iadd, 1) := by decide +kernel
theorem dX10_late_110 : decode cX10_late 110 = .ok (.sipush 1440, 3) := by decide +kernel
theorem dX10_late_113 : decode cX10_late 113 = .ok (.invokestatic 227, 3) := by decide +kernel
theorem dX10_late_116 : decode cX10_late 116 = .ok (.iload 6, 2) := by decide +kernel
theorem dX10_late_118 : decode cX10_late 118 = .ok (.if_icmp .le 13, 3) := by decide +kernel
theorem dX10_late_121 : decode cX10_late 121 = .ok (.iload 7, 2) := by decide +kernel
theorem dX10_late_123 : decode cX10_late 123 = .ok (.iload 10, 2) := by decide +kernel
theorem dX10_late_125 : decode cX10_late 125 = .ok (.iload 8, 2) := by decide +kernel
theorem dX10_late_127 : decode cX10_late 127 = .ok (.isub, 1) := by decide +kernel
theorem dX10_late_128 : decode cX10_late 128 = .ok (.iadd, 1) := by decide +kernel
theorem dX10_late_129 : decode cX10_late 129 = .ok (.istore 7, 2) := by decide +kernel
theorem dX10_late_131 : decode cX10_late 131 = .ok (.iload 10, 2) := by decide +kernel
theorem dX10_late_133 : decode cX10_late 133 = .ok (.istore 8, 2) := by decide +kernel
theorem dX10_late_135 : decode cX10_late 135 = .ok (.iinc 9 1, 3) := by decide +kernel
theorem dX10_late_138 : decode cX10_late 138 = .ok (.goto (-70), 3) := by decide +kernel
theorem dX10_late_141 : decode cX10_late 141 = .ok (.iload 7, 2) := by decide +kernel
theorem dX10_late_143 : decode cX10_late 143 = .ok (.ireturn, 1) := by decide +kernel
set_option maxRecDepth 20000 in
theorem ggX10_tower_X9_has : GoodIn wsX10_tower wsX9_has := goodIn_r _ [8, 9, 32, 33, 34, 35] (by decide +kernel) (by decide +kernel)
set_option maxRecDepth 20000 in
theorem gX10_tower_X9_has : GoodIn wsX10_tower (wsV RX10 69 RX9 yX9_has wsX9_has) := goodIn_app (goodIn_of _ (by decide +kernel)) ggX10_tower_X9_has
set_option maxRecDepth 20000 in
theorem ggX10_tower_X10_isMinute : GoodIn wsX10_tower wsX10_isMinute := goodIn_r _ [13, 14] (by decide +kernel) (by decide +kernel)
set_option maxRecDepth 20000 in
theorem gX10_tower_X10_isMinute : GoodIn wsX10_tower (va_wsS RX10 114 yX10_isMinute wsX10_isMinute) := goodIn_app (goodIn_of _ (by decide +kernel)) ggX10_tower_X10_isMinute
set_option maxRecDepth 20000 in
theorem ggX10_tower_X8_build : GoodIn wsX10_tower wsX8_build := goodIn_r _ [19, 20, 21, 22, 23, 36, 37, 38, 39] (by decide +kernel) (by decide +kernel)
set_option maxRecDepth 20000 in
theorem gX10_tower_X8_build : GoodIn wsX10_tower (wsV RX10 233 RX8 yX8_build wsX8_build) := goodIn_app (goodIn_of _ (by decide +kernel)) ggX10_tower_X8_build
theorem dX10_tower_0 : decode cX10_tower 0 = .ok (.aload_n 0, 1) := by decide +kernel
theorem dX10_tower_1 : decode cX10_tower 1 = .ok (.getfield 12, 3) := by decide +kernel
theorem dX10_tower_4 : decode cX10_tower 4 = .ok (.iload_n 1, 1) := by decide +kernel
theorem dX10_tower_5 : decode cX10_tower 5 = .ok (.invokevirtual 69, 3) := by decide +kernel
theorem dX10_tower_8 : decode cX10_tower 8 = .ok (.ifCond .eq 24, 3) := by decide +kernel
theorem dX10_tower_11 : decode cX10_tower 11 = .ok (.iload_n 2, 1) := by decide +kernel
theorem dX10_tower_12 : decode cX10_tower 12 = .ok (.invokestatic 114, 3) := by decide +kernel
theorem dX10_tower_15 : decode cX10_tower 15 = .ok (.ifCond .eq 17, 3) := by decide +kernel
theorem dX10_tower_18 : decode cX10_tower 18 = .ok (.iload_n 3, 1) := by decide +kernel
theorem dX10_tower_19 : decode cX10_tower 19 = .ok (.sipush (-600), 3) := by decide +kernel
theorem dX10_tower_22 : decode cX10_tower 22 = .ok (.if_icmp .lt 10, 3) := by decide +kernel
theorem dX10_tower_25 : decode cX10_tower 25 = .ok (.iload_n 3, 1) := by decide +kernel
theorem dX10_tower_26 : decode cX10_tower 26 = .ok (.sipush 600, 3) := by decide +kernel
theorem dX10_tower_29 : decode cX10_tower 29 = .ok (.if_icmp .le 5, 3) := by decide +kernel
theorem dX10_tower_32 : decode cX10_tower 32 = .ok (.iconst (-1), 1) := by decide +kernel
theorem dX10_tower_33 : decode cX10_tower 33 = .ok (.ireturn, 1) := by decide +kernel
theorem dX10_tower_34 : decode cX10_tower 34 = .ok (.aload_n 0, 1) := by decide +kernel
theorem dX10_tower_35 : decode cX10_tower 35 = .ok (.getfield 47, 3) := by decide +kernel
theorem dX10_tower_38 : decode cX10_tower 38 = .ok (.aload_n 0, 1) := by decide +kernel
theorem dX10_tower_39 : decode cX10_tower 39 = .ok (.getfield 12, 3) := by decide +kernel
theorem dX10_tower_42 : decode cX10_tower 42 = .ok (.getfield 230, 3) := by decide +kernel
theorem dX10_tower_45 : decode cX10_tower 45 = .ok (.iload_n 1, 1) := by decide +kernel
theorem dX10_tower_46 : decode cX10_tower 46 = .ok (.iaload, 1) := by decide +kernel
theorem dX10_tower_47 : decode cX10_tower 47 = .ok (.iload_n 2, 1) := by decide +kernel
theorem dX10_tower_48 : decode cX10_tower 48 = .ok (.iload_n 3, 1) := by decide +kernel
theorem dX10_tower_49 : decode cX10_tower 49 = .ok (.invokevirtual 233, 3) := by decide +kernel
theorem dX10_tower_52 : decode cX10_tower 52 = .ok (.ireturn, 1) := by decide +kernel
set_option maxRecDepth 20000 in
theorem ggX10_error_X10_isMinute : GoodIn wsX10_error wsX10_isMinute := goodIn_r _ [7, 8] (by decide +kernel) (by decide +kernel)
set_option maxRecDepth 20000 in
theorem gX10_error_X10_isMinute : GoodIn wsX10_error (va_wsS RX10 114 yX10_isMinute wsX10_isMinute) := goodIn_app (goodIn_of _ (by decide +kernel)) ggX10_error_X10_isMinute
set_option maxRecDepth 20000 in
theorem ggX10_error_X8_isSetBy : GoodIn wsX10_error wsX8_isSetBy := goodIn_r _ [13, 14, 15, 16, 17, 12, 18, 19, 33, 34, 35, 36] (by decide +kernel) (by decide +kernel)
set_option maxRecDepth 20000 in
theorem gX10_error_X8_isSetBy : GoodIn wsX10_error (wsV RX10 235 RX8 yX8_isSetBy wsX8_isSetBy) := goodIn_app (goodIn_of _ (by decide +kernel)) ggX10_error_X8_isSetBy
set_option maxRecDepth 20000 in
theorem ggX10_error_X8_errorAt : GoodIn wsX10_error wsX8_errorAt := goodIn_r _ [23, 24, 14, 15, 16, 17, 12, 18, 19, 33, 34, 35, 36] (by decide +kernel) (by decide +kernel)
set_option maxRecDepth 20000 in
theorem gX10_error_X8_errorAt : GoodIn wsX10_error (wsV RX10 241 RX8 yX8_errorAt wsX8_errorAt) := goodIn_app (goodIn_of _ (by decide +kernel)) ggX10_error_X8_errorAt
theorem dX10_error_0 : decode cX10_error 0 = .ok (.iload_n 2, 1) := by decide +kernel
theorem dX10_error_1 : decode cX10_error 1 = .ok (.invokestatic 114, 3) := by decide +kernel
theorem dX10_error_4 : decode cX10_error 4 = .ok (.ifCond .eq 15, 3) := by decide +kernel
theorem dX10_error_7 : decode cX10_error 7 = .ok (.aload_n 0, 1) := by decide +kernel
theorem dX10_error_8 : decode cX10_error 8 = .ok (.getfield 47, 3) := by decide +kernel
theorem dX10_error_11 : decode cX10_error 11 = .ok (.iload_n 1, 1) := by decide +kernel
theorem dX10_error_12 : decode cX10_error 12 = .ok (.iload_n 2, 1) := by decide +kernel
theorem dX10_error_13 : decode cX10_error 13 = .ok (.invokevirtual 235, 3) := by decide +kernel
theorem dX10_error_16 : decode cX10_error 16 = .ok (.ifCond .ne 13, 3) := by decide +kernel
theorem dX10_error_19 : decode cX10_error 19 = .ok (.new 117, 3) := by decide +kernel
theorem dX10_error_22 : decode cX10_error 22 = .ok (.dup, 1) := by decide +kernel
theorem dX10_error_23 : decode cX10_error 23 = .ok (.ldc 239, 2) := by decide +kernel
theorem dX10_error_25 : decode cX10_error 25 = .ok (.invokespecial 121, 3) := by decide +kernel
theorem dX10_error_28 : decode cX10_error 28 = .ok (.athrow, 1) := by decide +kernel
theorem dX10_error_29 : decode cX10_error 29 = .ok (.aload_n 0, 1) := by decide +kernel
theorem dX10_error_30 : decode cX10_error 30 = .ok (.getfield 47, 3) := by decide +kernel
theorem dX10_error_33 : decode cX10_error 33 = .ok (.iload_n 1, 1) := by decide +kernel
theorem dX10_error_34 : decode cX10_error 34 = .ok (.iload_n 2, 1) := by decide +kernel
theorem dX10_error_35 : decode cX10_error 35 = .ok (.invokevirtual 241, 3) := by decide +kernel
theorem dX10_error_38 : decode cX10_error 38 = .ok (.ireturn, 1) := by decide +kernel
set_option maxRecDepth 20000 in
theorem ggX10_set_X10_isMinute : GoodIn wsX10_set wsX10_isMinute := goodIn_r _ [8, 9] (by decide +kernel) (by decide +kernel)
set_option maxRecDepth 20000 in
theorem gX10_set_X10_isMinute : GoodIn wsX10_set (va_wsS RX10 114 yX10_isMinute wsX10_isMinute) := goodIn_app (goodIn_of _ (by decide +kernel)) ggX10_set_X10_isMinute
set_option maxRecDepth 20000 in
theorem ggX10_set_X8_isSetBy : GoodIn wsX10_set wsX8_isSetBy := goodIn_r _ [14, 15, 16, 17, 18, 13, 19, 20, 34, 35, 36, 37] (by decide +kernel) (by decide +kernel)
set_option maxRecDepth 20000 in
theorem gX10_set_X8_isSetBy : GoodIn wsX10_set (wsV RX10 235 RX8 yX8_isSetBy wsX8_isSetBy) := goodIn_app (goodIn_of _ (by decide +kernel)) ggX10_set_X8_isSetBy
set_option maxRecDepth 20000 in
theorem ggX10_set_X8_errorAt : GoodIn wsX10_set wsX8_errorAt := goodIn_r _ [24, 25, 15, 16, 17, 18, 13, 19, 20, 34, 35, 36, 37] (by decide +kernel) (by decide +kernel)
set_option maxRecDepth 20000 in
theorem gX10_set_X8_errorAt : GoodIn wsX10_set (wsV RX10 241 RX8 yX8_errorAt wsX8_errorAt) := goodIn_app (goodIn_of _ (by decide +kernel)) ggX10_set_X8_errorAt
theorem dX10_set_0 : decode cX10_set 0 = .ok (.iload_n 2, 1) := by decide +kernel
theorem dX10_set_1 : decode cX10_set 1 = .ok (.invokestatic 114, 3) := by decide +kernel
theorem dX10_set_4 : decode cX10_set 4 = .ok (.ifCond .eq 15, 3) := by decide +kernel
theorem dX10_set_7 : decode cX10_set 7 = .ok (.aload_n 0, 1) := by decide +kernel
theorem dX10_set_8 : decode cX10_set 8 = .ok (.getfield 47, 3) := by decide +kernel
theorem dX10_set_11 : decode cX10_set 11 = .ok (.iload_n 1, 1) := by decide +kernel
theorem dX10_set_12 : decode cX10_set 12 = .ok (.iload_n 2, 1) := by decide +kernel
theorem dX10_set_13 : decode cX10_set 13 = .ok (.invokevirtual 235, 3) := by decide +kernel
theorem dX10_set_16 : decode cX10_set 16 = .ok (.ifCond .ne 13, 3) := by decide +kernel
theorem dX10_set_19 : decode cX10_set 19 = .ok (.new 117, 3) := by decide +kernel
theorem dX10_set_22 : decode cX10_set 22 = .ok (.dup, 1) := by decide +kernel
theorem dX10_set_23 : decode cX10_set 23 = .ok (.ldc 239, 2) := by decide +kernel
theorem dX10_set_25 : decode cX10_set 25 = .ok (.invokespecial 121, 3) := by decide +kernel
theorem dX10_set_28 : decode cX10_set 28 = .ok (.athrow, 1) := by decide +kernel
theorem dX10_set_29 : decode cX10_set 29 = .ok (.aload_n 0, 1) := by decide +kernel
theorem dX10_set_30 : decode cX10_set 30 = .ok (.getfield 47, 3) := by decide +kernel
theorem dX10_set_33 : decode cX10_set 33 = .ok (.iload_n 1, 1) := by decide +kernel
theorem dX10_set_34 : decode cX10_set 34 = .ok (.iload_n 2, 1) := by decide +kernel
theorem dX10_set_35 : decode cX10_set 35 = .ok (.invokevirtual 241, 3) := by decide +kernel
theorem dX10_set_38 : decode cX10_set 38 = .ok (.istore_n 3, 1) := by decide +kernel
theorem dX10_set_39 : decode cX10_set 39 = .ok (.aload_n 0, 1) := by decide +kernel
theorem dX10_set_40 : decode cX10_set 40 = .ok (.getfield 47, 3) := by decide +kernel
theorem dX10_set_43 : decode cX10_set 43 = .ok (.getfield 244, 3) := by decide +kernel
theorem dX10_set_46 : decode cX10_set 46 = .ok (.iload_n 1, 1) := by decide +kernel
theorem dX10_set_47 : decode cX10_set 47 = .ok (.iload_n 2, 1) := by decide +kernel
theorem dX10_set_48 : decode cX10_set 48 = .ok (.iastore, 1) := by decide +kernel
theorem dX10_set_49 : decode cX10_set 49 = .ok (.iload_n 3, 1) := by decide +kernel
theorem dX10_set_50 : decode cX10_set 50 = .ok (.ireturn, 1) := by decide +kernel
set_option maxRecDepth 20000 in
theorem ggX10_round_X9_has : GoodIn wsX10_round wsX9_has := goodIn_r _ [15, 16, 104, 105, 106, 107] (by decide +kernel) (by decide +kernel)
set_option maxRecDepth 20000 in
theorem gX10_round_X9_has : GoodIn wsX10_round (wsV RX10 69 RX9 yX9_has wsX9_has) := goodIn_app (goodIn_of _ (by decide +kernel)) ggX10_round_X9_has
set_option maxRecDepth 20000 in
theorem ggX10_round_X10_isMinute : GoodIn wsX10_round wsX10_isMinute := goodIn_r _ [20, 7] (by decide +kernel) (by decide +kernel)
set_option maxRecDepth 20000 in
theorem gX10_round_X10_isMinute : GoodIn wsX10_round (va_wsS RX10 114 yX10_isMinute wsX10_isMinute) := goodIn_app (goodIn_of _ (by decide +kernel)) ggX10_round_X10_isMinute
set_option maxRecDepth 20000 in
theorem ggX10_round_X8_areAllSetBy : GoodIn wsX10_round wsX8_areAllSetBy := goodIn_r _ [25, 26, 27, 100, 101, 102, 103] (by decide +kernel) (by decide +kernel)
set_option maxRecDepth 20000 in
theorem gX10_round_X8_areAllSetBy : GoodIn wsX10_round (wsV RX10 247 RX8 yX8_areAllSetBy wsX8_areAllSetBy) := goodIn_app (goodIn_of _ (by decide +kernel)) ggX10_round_X8_areAllSetBy
set_option maxRecDepth 20000 in
theorem ggX10_round_X4_seek : GoodIn wsX10_round wsX4_seek := goodIn_r _ [32, 33, 34, 35, 36, 37, 38, 39, 31, 40, 41, 42, 43, 44, 45, 46, 47, 48, 49, 50, 51, 52, 53, 24, 54, 55, 56, 57, 58, 59, 26, 60, 61, 62, 63, 64, 65, 66, 67, 68, 69, 70, 71, 72, 73, 27, 74, 75, 76, 77, 78, 79, 80, 108, 109, 110, 111, 100, 101, 102, 103] (by decide +kernel) (by decide +kernel)
set_option maxRecDepth 20000 in
theorem gX10_round_X4_seek : GoodIn wsX10_round (wsV RX10 250 RX4 yX4_seek wsX4_seek) := goodIn_app (goodIn_of _ (by decide +kernel)) ggX10_round_X4_seek
set_option maxRecDepth 20000 in
theorem ggX10_round_X5_clear : GoodIn wsX10_round wsX5_clear := goodIn_r _ [85, 86, 112, 113] (by decide +kernel) (by decide +kernel)
set_option maxRecDepth 20000 in
theorem gX10_round_X5_clear : GoodIn wsX10_round (wsV RX10 128 RX5 yX5_clear wsX5_clear) := goodIn_app (goodIn_of _ (by decide +kernel)) ggX10_round_X5_clear
set_option maxRecDepth 20000 in
theorem ggX10_round_X5_add : GoodIn wsX10_round wsX5_add := goodIn_r _ [90, 86, 91, 112, 113] (by decide +kernel) (by decide +kernel)
set_option maxRecDepth 20000 in
theorem gX10_round_X5_add : GoodIn wsX10_round (wsV RX10 188 RX5 yX5_add wsX5_add) := goodIn_app (goodIn_of _ (by decide +kernel)) ggX10_round_X5_add
theorem dX10_round_0 : decode cX10_round 0 = .ok (.aload_n 0, 1) := by decide +kernel
theorem dX10_round_1 : decode cX10_round 1 = .ok (.getfield 12, 3) := by decide +kernel
theorem dX10_round_4 : decode cX10_round 4 = .ok (.iload_n 1, 1) := by decide +kernel
theorem dX10_round_5 : decode cX10_round 5 = .ok (.invokevirtual 69, 3) := by decide +kernel
theorem dX10_round_8 : decode cX10_round 8 = .ok (.ifCond .eq 31, 3) := by decide +kernel
theorem dX10_round_11 : decode cX10_round 11 = .ok (.iload_n 2, 1) := by decide +kernel
theorem dX10_round_12 : decode cX10_round 12 = .ok (.invokestatic 114, 3) := by decide +kernel
theorem dX10_round_15 : decode cX10_round 15 = .ok (.ifCond .eq 24, 3) := by decide +kernel
theorem dX10_round_18 : decode cX10_round 18 = .ok (.aload_n 0, 1) := by decide +kernel
theorem dX10_round_19 : decode cX10_round 19 = .ok (.getfield 47, 3) := by decide +kernel
theorem dX10_round_22 : decode cX10_round 22 = .ok (.getfield 111, 3) := by decide +kernel
theorem dX10_round_25 : decode cX10_round 25 = .ok (.ifCond .eq 14, 3) := by decide +kernel
theorem dX10_round_28 : decode cX10_round 28 = .ok (.aload_n 0, 1) := by decide +kernel
theorem dX10_round_29 : decode cX10_round 29 = .ok (.getfield 47, 3) := by decide +kernel
theorem dX10_round_32 : decode cX10_round 32 = .ok (.iload_n 2, 1) := by decide +kernel
theorem dX10_round_33 : decode cX10_round 33 = .ok (.invokevirtual 247, 3) := by decide +kernel
theorem dX10_round_36 : decode cX10_round 36 = .ok (.ifCond .ne 5, 3) := by decide +kernel
theorem dX10_round_39 : decode cX10_round 39 = .ok (.iconst (-1), 1) := by decide +kernel
theorem dX10_round_40 : decode cX10_round 40 = .ok (.ireturn, 1) := by decide +kernel
theorem dX10_round_41 : decode cX10_round 41 = .ok (.aload_n 0, 1) := by decide +kernel
theorem dX10_round_42 : decode cX10_round 42 = .ok (.getfield 54, 3) := by decide +kernel
theorem dX10_round_45 : decode cX10_round 45 = .ok (.aload_n 0, 1) := by decide +kernel
theorem dX10_round_46 : decode cX10_round 46 = .ok (.getfield 47, 3) := by decide +kernel
theorem dX10_round_49 : decode cX10_round 49 = .ok (.aload_n 0, 1) := by decide +kernel
theorem dX10_round_50 : decode cX10_round 50 = .ok (.getfield 12, 3) := by decide +kernel
theorem dX10_round_53 : decode cX10_round 53 = .ok (.getfield 230, 3) := by decide +kernel
theorem dX10_round_56 : decode cX10_round 56 = .ok (.iload_n 1, 1) := by decide +kernel
theorem dX10_round_57 : decode cX10_round 57 = .ok (.iaload, 1) := by decide +kernel
theorem dX10_round_58 : decode cX10_round 58 = .ok (.iload_n 2, 1) := by decide +kernel
theorem dX10_round_59 : decode cX10_round 59 = .ok (.invokevirtual 250, 3) := by decide +kernel
theorem dX10_round_62 : decode cX10_round 62 = .ok (.aload_n 0, 1) := by decide +kernel
theorem dX10_round_63 : decode cX10_round 63 = .ok (.getfield 54, 3) := by decide +kernel
theorem dX10_round_66 : decode cX10_round 66 = .ok (.getfield 254, 3) := by decide +kernel
theorem dX10_round_69 : decode cX10_round 69 = .ok (.ldc_w 257, 3) := by decide +kernel
theorem dX10_round_72 : decode cX10_round 72 = .ok (.if_icmp .lt 5, 3) := by decide +kernel
theorem dX10_round_75 : decode cX10_round 75 = .ok (.iconst (-1), 1) := by decide +kernel
theorem dX10_round_76 : decode cX10_round 76 = .ok (.ireturn, 1) := by decide +kernel
theorem dX10_round_77 : decode cX10_round 77 = .ok (.aload_n 0, 1) := by decide +kernel
theorem dX10_round_78 : decode cX10_round 78 = .ok (.getfield 61, 3) := by decide +kernel
theorem dX10_round_81 : decode cX10_round 81 = .ok (.invokevirtual 128, 3) := by decide +kernel
theorem dX10_round_84 : decode cX10_round 84 = .ok (.iconst 0, 1) := by decide +kernel
theorem dX10_round_85 : decode cX10_round 85 = .ok (.istore_n 3, 1) := by decide +kernel
theorem dX10_round_86 : decode cX10_round 86 = .ok (.iload_n 3, 1) := by decide +kernel
theorem dX10_round_87 : decode cX10_round 87 = .ok (.aload_n 0, 1) := by decide +kernel
theorem dX10_round_88 : decode cX10_round 88 = .ok (.getfield 47, 3) := by decide +kernel
theorem dX10_round_91 : decode cX10_round 91 = .ok (.getfield 111, 3) := by decide +kernel
theorem dX10_round_94 : decode cX10_round 94 = .ok (.if_icmp .ge 25, 3) := by decide +kernel
theorem dX10_round_97 : decode cX10_round 97 = .ok (.aload_n 0, 1) := by decide +kernel
theorem dX10_round_98 : decode cX10_round 98 = .ok (.getfield 61, 3) := by decide +kernel
theorem dX10_round_101 : decode cX10_round 101 = .ok (.aload_n 0, 1) := by decide +kernel
theorem dX10_round_102 : decode cX10_round 102 = .ok (.getfield 54, 3) := by decide +kernel
theorem dX10_round_105 : decode cX10_round 105 = .ok (.getfield 258, 3) := by decide +kernel
theorem dX10_round_108 : decode cX10_round 108 = .ok (.iload_n 3, 1) := by decide +kernel
theorem dX10_round_109 : decode cX10_round 109 = .ok (.iaload, 1) := by decide +kernel
theorem dX10_round_110 : decode cX10_round 110 = .ok (.invokevirtual 188, 3) := by decide +kernel
theorem dX10_round_113 : decode cX10_round 113 = .ok (.iinc 3 1, 3) := by decide +kernel
theorem dX10_round_116 : decode cX10_round 116 = .ok (.goto (-30), 3) := by decide +kernel
theorem dX10_round_119 : decode cX10_round 119 = .ok (.aload_n 0, 1) := by decide +kernel
theorem dX10_round_120 : decode cX10_round 120 = .ok (.getfield 61, 3) := by decide +kernel
theorem dX10_round_123 : decode cX10_round 123 = .ok (.aload_n 0, 1) := by decide +kernel
theorem dX10_round_124 : decode cX10_round 124 = .ok (.getfield 54, 3) := by decide +kernel
theorem dX10_round_127 : decode cX10_round 127 = .ok (.getfield 254, 3) := by decide +kernel
theorem dX10_round_130 : decode cX10_round 130 = .ok (.invokevirtual 188, 3) := by decide +kernel
theorem dX10_round_133 : decode cX10_round 133 = .ok (.aload_n 0, 1) := by decide +kernel
theorem dX10_round_134 : decode cX10_round 134 = .ok (.getfield 54, 3) := by decide +kernel
theorem dX10_round_137 : decode cX10_round 137 = .ok (.getfield 261, 3) := by decide +kernel
theorem dX10_round_140 : decode cX10_round 140 = .ok (.ireturn, 1) := by decide +kernel
theorem dX10_row_0 : decode cX10_row 0 = .ok (.iload_n 1, 1) := by decide +kernel
theorem dX10_row_1 : decode cX10_row 1 = .ok (.ifCond .lt 14, 3) := by decide +kernel
theorem dX10_row_4 : decode cX10_row 4 = .ok (.iload_n 1, 1) := by decide +kernel
theorem dX10_row_5 : decode cX10_row 5 = .ok (.aload_n 0, 1) := by decide +kernel
theorem dX10_row_6 : decode cX10_row 6 = .ok (.getfield 61, 3) := by decide +kernel
theorem dX10_row_9 : decode cX10_row 9 = .ok (.getfield 112, 3) := by decide +kernel
theorem dX10_row_12 : decode cX10_row 12 = .ok (.if_icmp .lt 14, 3) := by decide +kernel
theorem dX10_row_15 : decode cX10_row 15 = .ok (.new 117, 3) := by decide +kernel
theorem dX10_row_18 : decode cX10_row 18 = .ok (.dup, 1) := by decide +kernel
theorem dX10_row_19 : decode cX10_row 19 = .ok (.ldc_w 264, 3) := by decide +kernel
theorem dX10_row_22 : decode cX10_row 22 = .ok (.invokespecial 121, 3) := by decide +kernel
theorem dX10_row_25 : decode cX10_row 25 = .ok (.athrow, 1) := by decide +kernel
theorem dX10_row_26 : decode cX10_row 26 = .ok (.aload_n 0, 1) := by decide +kernel
theorem dX10_row_27 : decode cX10_row 27 = .ok (.getfield 61, 3) := by decide +kernel
theorem dX10_row_30 : decode cX10_row 30 = .ok (.getfield 266, 3) := by decide +kernel
theorem dX10_row_33 : decode cX10_row 33 = .ok (.iload_n 1, 1) := by decide +kernel
theorem dX10_row_34 : decode cX10_row 34 = .ok (.iaload, 1) := by decide +kernel
theorem dX10_row_35 : decode cX10_row 35 = .ok (.ireturn, 1) := by decide +kernel
theorem dX10_isDay_0 : decode cX10_isDay 0 = .ok (.iload_n 0, 1) := by decide +kernel
theorem dX10_isDay_1 : decode cX10_isDay 1 = .ok (.ifCond .lt 14, 3) := by decide +kernel
theorem dX10_isDay_4 : decode cX10_isDay 4 = .ok (.iload_n 0, 1) := by decide +kernel
theorem dX10_isDay_5 : decode cX10_isDay 5 = .ok (.sipush 400, 3) := by decide +kernel
theorem dX10_isDay_8 : decode cX10_isDay 8 = .ok (.if_icmp .ge 7, 3) := by decide +kernel
theorem dX10_isDay_11 : decode cX10_isDay 11 = .ok (.iconst 1, 1) := by decide +kernel
theorem dX10_isDay_12 : decode cX10_isDay 12 = .ok (.goto 4, 3) := by decide +kernel
theorem dX10_isDay_15 : decode cX10_isDay 15 = .ok (.iconst 0, 1) := by decide +kernel
theorem dX10_isDay_16 : decode cX10_isDay 16 = .ok (.ireturn, 1) := by decide +kernel
theorem dX10_isMinute_0 : decode cX10_isMinute 0 = .ok (.iload_n 0, 1) := by decide +kernel
theorem dX10_isMinute_1 : decode cX10_isMinute 1 = .ok (.ifCond .lt 14, 3) := by decide +kernel
theorem dX10_isMinute_4 : decode cX10_isMinute 4 = .ok (.iload_n 0, 1) := by decide +kernel
theorem dX10_isMinute_5 : decode cX10_isMinute 5 = .ok (.ldc_w 257, 3) := by decide +kernel
theorem dX10_isMinute_8 : decode cX10_isMinute 8 = .ok (.if_icmp .ge 7, 3) := by decide +kernel
theorem dX10_isMinute_11 : decode cX10_isMinute 11 = .ok (.iconst 1, 1) := by decide +kernel
theorem dX10_isMinute_12 : decode cX10_isMinute 12 = .ok (.goto 4, 3) := by decide +kernel
theorem dX10_isMinute_15 : decode cX10_isMinute 15 = .ok (.iconst 0, 1) := by decide +kernel
theorem dX10_isMinute_16 : decode cX10_isMinute 16 = .ok (.ireturn, 1) := by decide +kernel
theorem dX10_isTimeOfDay_0 : decode cX10_isTimeOfDay 0 = .ok (.iload_n 0, 1) := by decide +kernel
theorem dX10_isTimeOfDay_1 : decode cX10_isTimeOfDay 1 = .ok (.ifCond .lt 14, 3) := by decide +kernel
theorem dX10_isTimeOfDay_4 : decode cX10_isTimeOfDay 4 = .ok (.iload_n 0, 1) := by decide +kernel
theorem dX10_isTimeOfDay_5 : decode cX10_isTimeOfDay 5 = .ok (.sipush 1440, 3) := by decide +kernel
theorem dX10_isTimeOfDay_8 : decode cX10_isTimeOfDay 8 = .ok (.if_icmp .ge 7, 3) := by decide +kernel
theorem dX10_isTimeOfDay_11 : decode cX10_isTimeOfDay 11 = .ok (.iconst 1, 1) := by decide +kernel
theorem dX10_isTimeOfDay_12 : decode cX10_isTimeOfDay 12 = .ok (.goto 4, 3) := by decide +kernel
theorem dX10_isTimeOfDay_15 : decode cX10_isTimeOfDay 15 = .ok (.iconst 0, 1) := by decide +kernel
theorem dX10_isTimeOfDay_16 : decode cX10_isTimeOfDay 16 = .ok (.ireturn, 1) := by decide +kernel
theorem dX10_isMatter_0 : decode cX10_isMatter 0 = .ok (.iload_n 0, 1) := by decide +kernel
theorem dX10_isMatter_1 : decode cX10_isMatter 1 = .ok (.ifCond .lt 13, 3) := by decide +kernel
theorem dX10_isMatter_4 : decode cX10_isMatter 4 = .ok (.iload_n 0, 1) := by decide +kernel
theorem dX10_isMatter_5 : decode cX10_isMatter 5 = .ok (.bipush 6, 2) := by decide +kernel
theorem dX10_isMatter_7 : decode cX10_isMatter 7 = .ok (.if_icmp .ge 7, 3) := by decide +kernel
theorem dX10_isMatter_10 : decode cX10_isMatter 10 = .ok (.iconst 1, 1) := by decide +kernel
theorem dX10_isMatter_11 : decode cX10_isMatter 11 = .ok (.goto 4, 3) := by decide +kernel
theorem dX10_isMatter_14 : decode cX10_isMatter 14 = .ok (.iconst 0, 1) := by decide +kernel
theorem dX10_isMatter_15 : decode cX10_isMatter 15 = .ok (.ireturn, 1) := by decide +kernel
set_option maxRecDepth 20000 in
theorem ggX10_shiftFor_X9_shiftOn : GoodIn wsX10_shiftFor wsX9_shiftOn := goodIn_r _ [9, 10, 11, 12, 13, 14, 15, 16, 17, 18, 19, 20, 21, 22, 8, 23, 24, 25, 26, 27, 28, 29, 71, 72, 73, 74, 75, 76, 77] (by decide +kernel) (by decide +kernel)
set_option maxRecDepth 20000 in
theorem gX10_shiftFor_X9_shiftOn : GoodIn wsX10_shiftFor (wsV RX10 269 RX9 yX9_shiftOn wsX9_shiftOn) := goodIn_app (goodIn_of _ (by decide +kernel)) ggX10_shiftFor_X9_shiftOn
set_option maxRecDepth 20000 in
theorem ggX10_shiftFor_X6_holding : GoodIn wsX10_shiftFor wsX6_holding := goodIn_r _ [16, 17, 18, 19, 75, 76, 77] (by decide +kernel) (by decide +kernel)
set_option maxRecDepth 20000 in
theorem gX10_shiftFor_X6_holding : GoodIn wsX10_shiftFor (wsV RX10 272 RX6 yX6_holding wsX6_holding) := goodIn_app (goodIn_of _ (by decide +kernel)) ggX10_shiftFor_X6_holding
set_option maxRecDepth 20000 in
theorem ggX10_shiftFor_X2_moreOf : GoodIn wsX10_shiftFor wsX2_moreOf := goodIn_r _ [35, 36, 37, 38, 39, 34, 40, 41, 42, 43, 44, 45, 67, 68, 69, 70, 75, 76, 77] (by decide +kernel) (by decide +kernel)
set_option maxRecDepth 20000 in
theorem gX10_shiftFor_X2_moreOf : GoodIn wsX10_shiftFor (wsV RX10 275 RX2 yX2_moreOf wsX2_moreOf) := goodIn_app (goodIn_of _ (by decide +kernel)) ggX10_shiftFor_X2_moreOf
set_option maxRecDepth 20000 in
theorem ggX10_shiftFor_X2_timeOf : GoodIn wsX10_shiftFor wsX2_timeOf := goodIn_r _ [49, 50, 37, 38, 39, 34, 40, 41, 42, 43, 44, 45, 67, 68, 69, 70, 75, 76, 77] (by decide +kernel) (by decide +kernel)
set_option maxRecDepth 20000 in
theorem gX10_shiftFor_X2_timeOf : GoodIn wsX10_shiftFor (wsV RX10 278 RX2 yX2_timeOf wsX2_timeOf) := goodIn_app (goodIn_of _ (by decide +kernel)) ggX10_shiftFor_X2_timeOf
set_option maxRecDepth 20000 in
theorem ggX10_shiftFor_X9_nearestZone : GoodIn wsX10_shiftFor wsX9_nearestZone := goodIn_r _ [54, 20, 21, 22, 8, 23, 24, 25, 26, 27, 28, 29, 55, 56, 57, 58, 71, 72, 73, 74] (by decide +kernel) (by decide +kernel)
set_option maxRecDepth 20000 in
theorem gX10_shiftFor_X9_nearestZone : GoodIn wsX10_shiftFor (wsV RX10 281 RX9 yX9_nearestZone wsX9_nearestZone) := goodIn_app (goodIn_of _ (by decide +kernel)) ggX10_shiftFor_X9_nearestZone
theorem dX10_shiftFor_0 : decode cX10_shiftFor 0 = .ok (.aload_n 0, 1) := by decide +kernel
theorem dX10_shiftFor_1 : decode cX10_shiftFor 1 = .ok (.getfield 12, 3) := by decide +kernel
theorem dX10_shiftFor_4 : decode cX10_shiftFor 4 = .ok (.iload_n 1, 1) := by decide +kernel
theorem dX10_shiftFor_5 : decode cX10_shiftFor 5 = .ok (.iload_n 3, 1) := by decide +kernel
theorem dX10_shiftFor_6 : decode cX10_shiftFor 6 = .ok (.invokevirtual 269, 3) := by decide +kernel
theorem dX10_shiftFor_9 : decode cX10_shiftFor 9 = .ok (.istore 4, 2) := by decide +kernel
theorem dX10_shiftFor_11 : decode cX10_shiftFor 11 = .ok (.aload_n 0, 1) := by decide +kernel
theorem dX10_shiftFor_12 : decode cX10_shiftFor 12 = .ok (.getfield 40, 3) := by decide +kernel
theorem dX10_shiftFor_15 : decode cX10_shiftFor 15 = .ok (.getfield 108, 3) := by decide +kernel
theorem dX10_shiftFor_18 : decode cX10_shiftFor 18 = .ok (.iload_n 1, 1) := by decide +kernel
theorem dX10_shiftFor_19 : decode cX10_shiftFor 19 = .ok (.iload_n 3, 1) := by decide +kernel
theorem dX10_shiftFor_20 : decode cX10_shiftFor 20 = .ok (.invokevirtual 272, 3) := by decide +kernel
theorem dX10_shiftFor_23 : decode cX10_shiftFor 23 = .ok (.istore 5, 2) := by decide +kernel
theorem dX10_shiftFor_25 : decode cX10_shiftFor 25 = .ok (.iload 5, 2) := by decide +kernel
theorem dX10_shiftFor_27 : decode cX10_shiftFor 27 = .ok (.iconst (-1), 1) := by decide +kernel
theorem dX10_shiftFor_28 : decode cX10_shiftFor 28 = .ok (.if_icmp .ne 6, 3) := by decide +kernel
theorem dX10_shiftFor_31 : decode cX10_shiftFor 31 = .ok (.iload 4, 2) := by decide +kernel
theorem dX10_shiftFor_33 : decode cX10_shiftFor 33 = .ok (.ireturn, 1) := by decide +kernel
theorem dX10_shiftFor_34 : decode cX10_shiftFor 34 = .ok (.aload_n 0, 1) := by decide +kernel
theorem dX10_shiftFor_35 : decode cX10_shiftFor 35 = .ok (.getfield 40, 3) := by decide +kernel
theorem dX10_shiftFor_38 : decode cX10_shiftFor 38 = .ok (.iload 5, 2) := by decide +kernel
theorem dX10_shiftFor_40 : decode cX10_shiftFor 40 = .ok (.iload_n 2, 1) := by decide +kernel
theorem dX10_shiftFor_41 : decode cX10_shiftFor 41 = .ok (.invokevirtual 275, 3) := by decide +kernel
theorem dX10_shiftFor_44 : decode cX10_shiftFor 44 = .ok (.istore 6, 2) := by decide +kernel
theorem dX10_shiftFor_46 : decode cX10_shiftFor 46 = .ok (.aload_n 0, 1) := by decide +kernel
theorem dX10_shiftFor_47 : decode cX10_shiftFor 47 = .ok (.getfield 40, 3) := by decide +kernel
theorem dX10_shiftFor_50 : decode cX10_shiftFor 50 = .ok (.iload 5, 2) := by decide +kernel
theorem dX10_shiftFor_52 : decode cX10_shiftFor 52 = .ok (.iload_n 2, 1) := by decide +kernel
theorem dX10_shiftFor_53 : decode cX10_shiftFor 53 = .ok (.invokevirtual 278, 3) := by decide +kernel
theorem dX10_shiftFor_56 : decode cX10_shiftFor 56 = .ok (.lookupswitch 53 #[(108, 28), (122, 41)], 28) := by decide +kernel
theorem dX10_shiftFor_84 : decode cX10_shiftFor 84 = .ok (.aload_n 0, 1) := by decide +kernel
theorem dX10_shiftFor_85 : decode cX10_shiftFor 85 = .ok (.getfield 12, 3) := by decide +kernel
theorem dX10_shiftFor_88 : decode cX10_shiftFor 88 = .ok (.getfield 230, 3) := by decide +kernel
theorem dX10_shiftFor_91 : decode cX10_shiftFor 91 = .ok (.iload_n 1, 1) := by decide +kernel
theorem dX10_shiftFor_92 : decode cX10_shiftFor 92 = .ok (.iaload, 1) := by decide +kernel
theorem dX10_shiftFor_93 : decode cX10_shiftFor 93 = .ok (.iload 6, 2) := by decide +kernel
theorem dX10_shiftFor_95 : decode cX10_shiftFor 95 = .ok (.iadd, 1) := by decide +kernel
theorem dX10_shiftFor_96 : decode cX10_shiftFor 96 = .ok (.ireturn, 1) := by decide +kernel
theorem dX10_shiftFor_97 : decode cX10_shiftFor 97 = .ok (.aload_n 0, 1) := by decide +kernel
theorem dX10_shiftFor_98 : decode cX10_shiftFor 98 = .ok (.getfield 12, 3) := by decide +kernel
theorem dX10_shiftFor_101 : decode cX10_shiftFor 101 = .ok (.iload_n 1, 1) := by decide +kernel
theorem dX10_shiftFor_102 : decode cX10_shiftFor 102 = .ok (.invokevirtual 281, 3) := by decide +kernel
theorem dX10_shiftFor_105 : decode cX10_shiftFor 105 = .ok (.iload 6, 2) := by decide +kernel
theorem dX10_shiftFor_107 : decode cX10_shiftFor 107 = .ok (.iadd, 1) := by decide +kernel
theorem dX10_shiftFor_108 : decode cX10_shiftFor 108 = .ok (.ireturn, 1) := by decide +kernel
theorem dX10_shiftFor_109 : decode cX10_shiftFor 109 = .ok (.iload 4, 2) := by decide +kernel
theorem dX10_shiftFor_111 : decode cX10_shiftFor 111 = .ok (.iload 6, 2) := by decide +kernel
theorem dX10_shiftFor_113 : decode cX10_shiftFor 113 = .ok (.iadd, 1) := by decide +kernel
theorem dX10_shiftFor_114 : decode cX10_shiftFor 114 = .ok (.ireturn, 1) := by decide +kernel
set_option maxRecDepth 20000 in
theorem ggX10_nextChange_X6_nextDay : GoodIn wsX10_nextChange wsX6_nextDay := goodIn_r _ [13, 14, 15, 16, 33, 34, 35] (by decide +kernel) (by decide +kernel)
set_option maxRecDepth 20000 in
theorem gX10_nextChange_X6_nextDay : GoodIn wsX10_nextChange (wsV RX10 284 RX6 yX6_nextDay wsX6_nextDay) := goodIn_app (goodIn_of _ (by decide +kernel)) ggX10_nextChange_X6_nextDay
theorem dX10_nextChange_0 : decode cX10_nextChange 0 = .ok (.aload_n 0, 1) := by decide +kernel
theorem dX10_nextChange_1 : decode cX10_nextChange 1 = .ok (.getfield 12, 3) := by decide +kernel
theorem dX10_nextChange_4 : decode cX10_nextChange 4 = .ok (.getfield 95, 3) := by decide +kernel
theorem dX10_nextChange_7 : decode cX10_nextChange 7 = .ok (.iload_n 1, 1) := by decide +kernel
theorem dX10_nextChange_8 : decode cX10_nextChange 8 = .ok (.iload_n 2, 1) := by decide +kernel
theorem dX10_nextChange_9 : decode cX10_nextChange 9 = .ok (.invokevirtual 284, 3) := by decide +kernel
theorem dX10_nextChange_12 : decode cX10_nextChange 12 = .ok (.aload_n 0, 1) := by decide +kernel
theorem dX10_nextChange_13 : decode cX10_nextChange 13 = .ok (.getfield 40, 3) := by decide +kernel
theorem dX10_nextChange_16 : decode cX10_nextChange 16 = .ok (.getfield 108, 3) := by decide +kernel
theorem dX10_nextChange_19 : decode cX10_nextChange 19 = .ok (.iload_n 1, 1) := by decide +kernel
theorem dX10_nextChange_20 : decode cX10_nextChange 20 = .ok (.iload_n 2, 1) := by decide +kernel
theorem dX10_nextChange_21 : decode cX10_nextChange 21 = .ok (.invokevirtual 284, 3) := by decide +kernel
theorem dX10_nextChange_24 : decode cX10_nextChange 24 = .ok (.invokestatic 222, 3) := by decide +kernel
theorem dX10_nextChange_27 : decode cX10_nextChange 27 = .ok (.ireturn, 1) := by decide +kernel
theorem dX11_init_0 : decode cX11_init 0 = .ok (.aload_n 0, 1) := by decide +kernel
theorem dX11_init_1 : decode cX11_init 1 = .ok (.invokespecial 3, 3) := by decide +kernel
theorem dX11_init_4 : decode cX11_init 4 = .ok (.aload_n 0, 1) := by decide +kernel
theorem dX11_init_5 : decode cX11_init 5 = .ok (.bipush 16, 2) := by decide +kernel
theorem dX11_init_7 : decode cX11_init 7 = .ok (.newarray .int, 2) := by decide +kernel
theorem dX11_init_9 : decode cX11_init 9 = .ok (.putfield 9, 3) := by decide +kernel
theorem dX11_init_12 : decode cX11_init 12 = .ok (.aload_n 0, 1) := by decide +kernel
theorem dX11_init_13 : decode cX11_init 13 = .ok (.bipush 60, 2) := by decide +kernel
theorem dX11_init_15 : decode cX11_init 15 = .ok (.newarray .int, 2) := by decide +kernel
theorem dX11_init_17 : decode cX11_init 17 = .ok (.putfield 13, 3) := by decide +kernel
theorem dX11_init_20 : decode cX11_init 20 = .ok (.aload_n 0, 1) := by decide +kernel
theorem dX11_init_21 : decode cX11_init 21 = .ok (.bipush 60, 2) := by decide +kernel
theorem dX11_init_23 : decode cX11_init 23 = .ok (.newarray .int, 2) := by decide +kernel
theorem dX11_init_25 : decode cX11_init 25 = .ok (.putfield 16, 3) := by decide +kernel
theorem dX11_init_28 : decode cX11_init 28 = .ok (.aload_n 0, 1) := by decide +kernel
theorem dX11_init_29 : decode cX11_init 29 = .ok (.bipush 60, 2) := by decide +kernel
theorem dX11_init_31 : decode cX11_init 31 = .ok (.newarray .int, 2) := by decide +kernel
theorem dX11_init_33 : decode cX11_init 33 = .ok (.putfield 19, 3) := by decide +kernel
theorem dX11_init_36 : decode cX11_init 36 = .ok (.aload_n 0, 1) := by decide +kernel
theorem dX11_init_37 : decode cX11_init 37 = .ok (.bipush 60, 2) := by decide +kernel
theorem dX11_init_39 : decode cX11_init 39 = .ok (.newarray .int, 2) := by decide +kernel
theorem dX11_init_41 : decode cX11_init 41 = .ok (.putfield 22, 3) := by decide +kernel
theorem dX11_init_44 : decode cX11_init 44 = .ok (.aload_n 0, 1) := by decide +kernel
theorem dX11_init_45 : decode cX11_init 45 = .ok (.sipush 400, 3) := by decide +kernel
theorem dX11_init_48 : decode cX11_init 48 = .ok (.newarray .int, 2) := by decide +kernel
theorem dX11_init_50 : decode cX11_init 50 = .ok (.putfield 25, 3) := by decide +kernel
theorem dX11_init_53 : decode cX11_init 53 = .ok (.aload_n 0, 1) := by decide +kernel
theorem dX11_init_54 : decode cX11_init 54 = .ok (.bipush 6, 2) := by decide +kernel
theorem dX11_init_56 : decode cX11_init 56 = .ok (.newarray .int, 2) := by decide +kernel
theorem dX11_init_58 : decode cX11_init 58 = .ok (.putfield 28, 3) := by decide +kernel
theorem dX11_init_61 : decode cX11_init 61 = .ok (.aload_n 0, 1) := by decide +kernel
theorem dX11_init_62 : decode cX11_init 62 = .ok (.bipush 6, 2) := by decide +kernel
theorem dX11_init_64 : decode cX11_init 64 = .ok (.newarray .int, 2) := by decide +kernel
theorem dX11_init_66 : decode cX11_init 66 = .ok (.putfield 31, 3) := by decide +kernel
theorem dX11_init_69 : decode cX11_init 69 = .ok (.aload_n 0, 1) := by decide +kernel
theorem dX11_init_70 : decode cX11_init 70 = .ok (.bipush 6, 2) := by decide +kernel
theorem dX11_init_72 : decode cX11_init 72 = .ok (.newarray .boolean, 2) := by decide +kernel
theorem dX11_init_74 : decode cX11_init 74 = .ok (.putfield 34, 3) := by decide +kernel
theorem dX11_init_77 : decode cX11_init 77 = .ok (.aload_n 0, 1) := by decide +kernel
theorem dX11_init_78 : decode cX11_init 78 = .ok (.bipush 6, 2) := by decide +kernel
theorem dX11_init_80 : decode cX11_init 80 = .ok (.newarray .int, 2) := by decide +kernel
theorem dX11_init_82 : decode cX11_init 82 = .ok (.putfield 38, 3) := by decide +kernel
theorem dX11_init_85 : decode cX11_init 85 = .ok (.aload_n 0, 1) := by decide +kernel
theorem dX11_init_86 : decode cX11_init 86 = .ok (.bipush 6, 2) := by decide +kernel
theorem dX11_init_88 : decode cX11_init 88 = .ok (.newarray .int, 2) := by decide +kernel
theorem dX11_init_90 : decode cX11_init 90 = .ok (.putfield 41, 3) := by decide +kernel
theorem dX11_init_93 : decode cX11_init 93 = .ok (.aload_n 0, 1) := by decide +kernel
theorem dX11_init_94 : decode cX11_init 94 = .ok (.bipush 6, 2) := by decide +kernel
theorem dX11_init_96 : decode cX11_init 96 = .ok (.newarray .int, 2) := by decide +kernel
theorem dX11_init_98 : decode cX11_init 98 = .ok (.putfield 44, 3) := by decide +kernel
theorem dX11_init_101 : decode cX11_init 101 = .ok (.aload_n 0, 1) := by decide +kernel
theorem dX11_init_102 : decode cX11_init 102 = .ok (.bipush 6, 2) := by decide +kernel
theorem dX11_init_104 : decode cX11_init 104 = .ok (.newarray .int, 2) := by decide +kernel
theorem dX11_init_106 : decode cX11_init 106 = .ok (.putfield 47, 3) := by decide +kernel
theorem dX11_init_109 : decode cX11_init 109 = .ok (.aload_n 0, 1) := by decide +kernel
theorem dX11_init_110 : decode cX11_init 110 = .ok (.bipush 6, 2) := by decide +kernel
theorem dX11_init_112 : decode cX11_init 112 = .ok (.newarray .int, 2) := by decide +kernel
theorem dX11_init_114 : decode cX11_init 114 = .ok (.putfield 50, 3) := by decide +kernel
theorem dX11_init_117 : decode cX11_init 117 = .ok (.aload_n 0, 1) := by decide +kernel
theorem dX11_init_118 : decode cX11_init 118 = .ok (.bipush 100, 2) := by decide +kernel
theorem dX11_init_120 : decode cX11_init 120 = .ok (.newarray .int, 2) := by decide +kernel
theorem dX11_init_122 : decode cX11_init 122 = .ok (.putfield 53, 3) := by decide +kernel
theorem dX11_init_125 : decode cX11_init 125 = .ok (.aload_n 0, 1) := by decide +kernel
theorem dX11_init_126 : decode cX11_init 126 = .ok (.bipush 20, 2) := by decide +kernel
theorem dX11_init_128 : decode cX11_init 128 = .ok (.newarray .int, 2) := by decide +kernel
theorem dX11_init_130 : decode cX11_init 130 = .ok (.putfield 56, 3) := by decide +kernel
theorem dX11_init_133 : decode cX11_init 133 = .ok (.aload_n 0, 1) := by decide +kernel
theorem dX11_init_134 : decode cX11_init 134 = .ok (.bipush 20, 2) := by decide +kernel
theorem dX11_init_136 : decode cX11_init 136 = .ok (.newarray .int, 2) := by decide +kernel
theorem dX11_init_138 : decode cX11_init 138 = .ok (.putfield 59, 3) := by decide +kernel
theorem dX11_init_141 : decode cX11_init 141 = .ok (.aload_n 0, 1) := by decide +kernel
theorem dX11_init_142 : decode cX11_init 142 = .ok (.bipush 126, 2) := by decide +kernel
theorem dX11_init_144 : decode cX11_init 144 = .ok (.newarray .int, 2) := by decide +kernel
theorem dX11_init_146 : decode cX11_init 146 = .ok (.putfield 62, 3) := by decide +kernel
theorem dX11_init_149 : decode cX11_init 149 = .ok (.aload_n 0, 1) := by decide +kernel
theorem dX11_init_150 : decode cX11_init 150 = .ok (.bipush 126, 2) := by decide +kernel
theorem dX11_init_152 : decode cX11_init 152 = .ok (.newarray .int, 2) := by decide +kernel
theorem dX11_init_154 : decode cX11_init 154 = .ok (.putfield 65, 3) := by decide +kernel
theorem dX11_init_157 : decode cX11_init 157 = .ok (.aload_n 0, 1) := by decide +kernel
theorem dX11_init_158 : decode cX11_init 158 = .ok (.bipush 7, 2) := by decide +kernel
theorem dX11_init_160 : decode cX11_init 160 = .ok (.newarray .int, 2) := by decide +kernel
theorem dX11_init_162 : decode cX11_init 162 = .ok (.putfield 68, 3) := by decide +kernel
theorem dX11_init_165 : decode cX11_init 165 = .ok (.aload_n 0, 1) := by decide +kernel
theorem dX11_init_166 : decode cX11_init 166 = .ok (.bipush 7, 2) := by decide +kernel
theorem dX11_init_168 : decode cX11_init 168 = .ok (.newarray .int, 2) := by decide +kernel
theorem dX11_init_170 : decode cX11_init 170 = .ok (.putfield 71, 3) := by decide +kernel
theorem dX11_init_173 : decode cX11_init 173 = .ok (.aload_n 0, 1) := by decide +kernel
theorem dX11_init_174 : decode cX11_init 174 = .ok (.bipush 7, 2) := by decide +kernel
theorem dX11_init_176 : decode cX11_init 176 = .ok (.newarray .int, 2) := by decide +kernel
theorem dX11_init_178 : decode cX11_init 178 = .ok (.putfield 74, 3) := by decide +kernel
theorem dX11_init_181 : decode cX11_init 181 = .ok (.aload_n 0, 1) := by decide +kernel
theorem dX11_init_182 : decode cX11_init 182 = .ok (.bipush 7, 2) := by decide +kernel
theorem dX11_init_184 : decode cX11_init 184 = .ok (.newarray .int, 2) := by decide +kernel
theorem dX11_init_186 : decode cX11_init 186 = .ok (.putfield 77, 3) := by decide +kernel
theorem dX11_init_189 : decode cX11_init 189 = .ok (.aload_n 0, 1) := by decide +kernel
theorem dX11_init_190 : decode cX11_init 190 = .ok (.bipush 7, 2) := by decide +kernel
theorem dX11_init_192 : decode cX11_init 192 = .ok (.newarray .int, 2) := by decide +kernel
theorem dX11_init_194 : decode cX11_init 194 = .ok (.putfield 80, 3) := by decide +kernel
theorem dX11_init_197 : decode cX11_init 197 = .ok (.return_, 1) := by decide +kernel
theorem dX11_thrown_0 : decode cX11_thrown 0 = .ok (.aload_n 0, 1) := by decide +kernel
theorem dX11_thrown_1 : decode cX11_thrown 1 = .ok (.getfield 83, 3) := by decide +kernel
theorem dX11_thrown_4 : decode cX11_thrown 4 = .ok (.ireturn, 1) := by decide +kernel
theorem dX11_in_0 : decode cX11_in 0 = .ok (.lload_n 0, 1) := by decide +kernel
theorem dX11_in_1 : decode cX11_in 1 = .ok (.lload_n 2, 1) := by decide +kernel
theorem dX11_in_2 : decode cX11_in 2 = .ok (.lcmp, 1) := by decide +kernel
theorem dX11_in_3 : decode cX11_in 3 = .ok (.ifCond .lt 14, 3) := by decide +kernel
theorem dX11_in_6 : decode cX11_in 6 = .ok (.lload_n 0, 1) := by decide +kernel
theorem dX11_in_7 : decode cX11_in 7 = .ok (.lload 4, 2) := by decide +kernel
theorem dX11_in_9 : decode cX11_in 9 = .ok (.lcmp, 1) := by decide +kernel
theorem dX11_in_10 : decode cX11_in 10 = .ok (.ifCond .gt 7, 3) := by decide +kernel
theorem dX11_in_13 : decode cX11_in 13 = .ok (.iconst 1, 1) := by decide +kernel
theorem dX11_in_14 : decode cX11_in 14 = .ok (.goto 4, 3) := by decide +kernel
theorem dX11_in_17 : decode cX11_in 17 = .ok (.iconst 0, 1) := by decide +kernel
theorem dX11_in_18 : decode cX11_in 18 = .ok (.ireturn, 1) := by decide +kernel
theorem dX11_refuse_0 : decode cX11_refuse 0 = .ok (.aload_n 0, 1) := by decide +kernel
theorem dX11_refuse_1 : decode cX11_refuse 1 = .ok (.iconst 1, 1) := by decide +kernel
theorem dX11_refuse_2 : decode cX11_refuse 2 = .ok (.putfield 83, 3) := by decide +kernel
theorem dX11_refuse_5 : decode cX11_refuse 5 = .ok (.iconst 0, 1) := by decide +kernel
theorem dX11_refuse_6 : decode cX11_refuse 6 = .ok (.ireturn, 1) := by decide +kernel
set_option maxRecDepth 20000 in
theorem ggX11_isTown_X11_in : GoodIn wsX11_isTown wsX11_in := goodIn_r _ [5] (by decide +kernel) (by decide +kernel)
set_option maxRecDepth 20000 in
theorem gX11_isTown_X11_in : GoodIn wsX11_isTown (va_wsS RX11 90 yX11_in wsX11_in) := goodIn_app (goodIn_of _ (by decide +kernel)) ggX11_isTown_X11_in
theorem dX11_isTown_0 : decode cX11_isTown 0 = .ok (.iload_n 1, 1) := by decide +kernel
theorem dX11_isTown_1 : decode cX11_isTown 1 = .ok (.i2l, 1) := by decide +kernel
theorem dX11_isTown_2 : decode cX11_isTown 2 = .ok (.lconst 0, 1) := by decide +kernel
theorem dX11_isTown_3 : decode cX11_isTown 3 = .ok (.aload_n 0, 1) := by decide +kernel
theorem dX11_isTown_4 : decode cX11_isTown 4 = .ok (.getfield 87, 3) := by decide +kernel
theorem dX11_isTown_7 : decode cX11_isTown 7 = .ok (.iconst 1, 1) := by decide +kernel
theorem dX11_isTown_8 : decode cX11_isTown 8 = .ok (.isub, 1) := by decide +kernel
theorem dX11_isTown_9 : decode cX11_isTown 9 = .ok (.i2l, 1) := by decide +kernel
theorem dX11_isTown_10 : decode cX11_isTown 10 = .ok (.invokestatic 90, 3) := by decide +kernel
theorem dX11_isTown_13 : decode cX11_isTown 13 = .ok (.ireturn, 1) := by decide +kernel
set_option maxRecDepth 20000 in
theorem ggX11_isDay_X11_in : GoodIn wsX11_isDay wsX11_in := goodIn_r _ [5] (by decide +kernel) (by decide +kernel)
set_option maxRecDepth 20000 in
theorem gX11_isDay_X11_in : GoodIn wsX11_isDay (va_wsS RX11 90 yX11_in wsX11_in) := goodIn_app (goodIn_of _ (by decide +kernel)) ggX11_isDay_X11_in
theorem dX11_isDay_0 : decode cX11_isDay 0 = .ok (.iload_n 0, 1) := by decide +kernel
theorem dX11_isDay_1 : decode cX11_isDay 1 = .ok (.i2l, 1) := by decide +kernel
theorem dX11_isDay_2 : decode cX11_isDay 2 = .ok (.lconst 0, 1) := by decide +kernel
theorem dX11_isDay_3 : decode cX11_isDay 3 = .ok (.ldc2_w 94, 3) := by decide +kernel
theorem dX11_isDay_6 : decode cX11_isDay 6 = .ok (.invokestatic 90, 3) := by decide +kernel
theorem dX11_isDay_9 : decode cX11_isDay 9 = .ok (.ireturn, 1) := by decide +kernel
set_option maxRecDepth 20000 in
theorem ggX11_isMinute_X11_in : GoodIn wsX11_isMinute wsX11_in := goodIn_r _ [5] (by decide +kernel) (by decide +kernel)
set_option maxRecDepth 20000 in
theorem gX11_isMinute_X11_in : GoodIn wsX11_isMinute (va_wsS RX11 90 yX11_in wsX11_in) := goodIn_app (goodIn_of _ (by decide +kernel)) ggX11_isMinute_X11_in
theorem dX11_isMinute_0 : decode cX11_isMinute 0 = .ok (.iload_n 0, 1) := by decide +kernel
theorem dX11_isMinute_1 : decode cX11_isMinute 1 = .ok (.i2l, 1) := by decide +kernel
theorem dX11_isMinute_2 : decode cX11_isMinute 2 = .ok (.lconst 0, 1) := by decide +kernel
theorem dX11_isMinute_3 : decode cX11_isMinute 3 = .ok (.ldc2_w 96, 3) := by decide +kernel
theorem dX11_isMinute_6 : decode cX11_isMinute 6 = .ok (.invokestatic 90, 3) := by decide +kernel
theorem dX11_isMinute_9 : decode cX11_isMinute 9 = .ok (.ireturn, 1) := by decide +kernel
set_option maxRecDepth 20000 in
theorem ggX11_town_X11_in : GoodIn wsX11_town wsX11_in := goodIn_r _ [9] (by decide +kernel) (by decide +kernel)
set_option maxRecDepth 20000 in
theorem gX11_town_X11_in : GoodIn wsX11_town (va_wsS RX11 90 yX11_in wsX11_in) := goodIn_app (goodIn_of _ (by decide +kernel)) ggX11_town_X11_in
theorem dX11_town_0 : decode cX11_town 0 = .ok (.aload_n 0, 1) := by decide +kernel
theorem dX11_town_1 : decode cX11_town 1 = .ok (.iconst 0, 1) := by decide +kernel
theorem dX11_town_2 : decode cX11_town 2 = .ok (.putfield 83, 3) := by decide +kernel
theorem dX11_town_5 : decode cX11_town 5 = .ok (.iload_n 1, 1) := by decide +kernel
theorem dX11_town_6 : decode cX11_town 6 = .ok (.i2l, 1) := by decide +kernel
theorem dX11_town_7 : decode cX11_town 7 = .ok (.ldc2_w 98, 3) := by decide +kernel
theorem dX11_town_10 : decode cX11_town 10 = .ok (.ldc2_w 100, 3) := by decide +kernel
theorem dX11_town_13 : decode cX11_town 13 = .ok (.invokestatic 90, 3) := by decide +kernel
theorem dX11_town_16 : decode cX11_town 16 = .ok (.ifCond .eq 12, 3) := by decide +kernel
theorem dX11_town_19 : decode cX11_town 19 = .ok (.aload_n 0, 1) := by decide +kernel
theorem dX11_town_20 : decode cX11_town 20 = .ok (.getfield 87, 3) := by decide +kernel
theorem dX11_town_23 : decode cX11_town 23 = .ok (.bipush 16, 2) := by decide +kernel
theorem dX11_town_25 : decode cX11_town 25 = .ok (.if_icmp .ne 5, 3) := by decide +kernel
theorem dX11_town_28 : decode cX11_town 28 = .ok (.iconst (-1), 1) := by decide +kernel
theorem dX11_town_29 : decode cX11_town 29 = .ok (.ireturn, 1) := by decide +kernel
theorem dX11_town_30 : decode cX11_town 30 = .ok (.aload_n 0, 1) := by decide +kernel
theorem dX11_town_31 : decode cX11_town 31 = .ok (.getfield 9, 3) := by decide +kernel
theorem dX11_town_34 : decode cX11_town 34 = .ok (.aload_n 0, 1) := by decide +kernel
theorem dX11_town_35 : decode cX11_town 35 = .ok (.getfield 87, 3) := by decide +kernel
theorem dX11_town_38 : decode cX11_town 38 = .ok (.iload_n 1, 1) := by decide +kernel
theorem dX11_town_39 : decode cX11_town 39 = .ok (.iastore, 1) := by decide +kernel
theorem dX11_town_40 : decode cX11_town 40 = .ok (.aload_n 0, 1) := by decide +kernel
theorem dX11_town_41 : decode cX11_town 41 = .ok (.dup, 1) := by decide +kernel
theorem dX11_town_42 : decode cX11_town 42 = .ok (.getfield 87, 3) := by decide +kernel
theorem dX11_town_45 : decode cX11_town 45 = .ok (.iconst 1, 1) := by decide +kernel
theorem dX11_town_46 : decode cX11_town 46 = .ok (.iadd, 1) := by decide +kernel
theorem dX11_town_47 : decode cX11_town 47 = .ok (.putfield 87, 3) := by decide +kernel
theorem dX11_town_50 : decode cX11_town 50 = .ok (.aload_n 0, 1) := by decide +kernel
theorem dX11_town_51 : decode cX11_town 51 = .ok (.getfield 87, 3) := by decide +kernel
theorem dX11_town_54 : decode cX11_town 54 = .ok (.iconst 1, 1) := by decide +kernel
theorem dX11_town_55 : decode cX11_town 55 = .ok (.isub, 1) := by decide +kernel
theorem dX11_town_56 : decode cX11_town 56 = .ok (.ireturn, 1) := by decide +kernel
set_option maxRecDepth 20000 in
theorem ggX11_clock_X11_isTown : GoodIn wsX11_clock wsX11_isTown := goodIn_r _ [14, 15, 16, 17, 13, 18, 23, 24, 25, 26, 27, 28, 29, 30, 31, 32, 33, 34, 35, 36, 37, 38, 39, 40, 41, 42, 43, 44, 45, 46, 47, 48, 49, 50, 51, 52, 53, 54, 55, 56, 57, 58, 59, 60] (by decide +kernel) (by decide +kernel)
set_option maxRecDepth 20000 in
theorem gX11_clock_X11_isTown : GoodIn wsX11_clock (wsV RX11 102 RX11 yX11_isTown wsX11_isTown) := goodIn_app (goodIn_of _ (by decide +kernel)) ggX11_clock_X11_isTown
set_option maxRecDepth 20000 in
theorem ggX11_clock_X11_isDay : GoodIn wsX11_clock wsX11_isDay := goodIn_r _ [21, 22, 16, 17, 13, 18] (by decide +kernel) (by decide +kernel)
set_option maxRecDepth 20000 in
theorem gX11_clock_X11_isDay : GoodIn wsX11_clock (va_wsS RX11 106 yX11_isDay wsX11_isDay) := goodIn_app (goodIn_of _ (by decide +kernel)) ggX11_clock_X11_isDay
set_option maxRecDepth 20000 in
theorem ggX11_clock_X11_in : GoodIn wsX11_clock wsX11_in := goodIn_r _ [18] (by decide +kernel) (by decide +kernel)
set_option maxRecDepth 20000 in
theorem gX11_clock_X11_in : GoodIn wsX11_clock (va_wsS RX11 90 yX11_in wsX11_in) := goodIn_app (goodIn_of _ (by decide +kernel)) ggX11_clock_X11_in
theorem dX11_clock_0 : decode cX11_clock 0 = .ok (.aload_n 0, 1) := by decide +kernel
theorem dX11_clock_1 : decode cX11_clock 1 = .ok (.iconst 0, 1) := by decide +kernel
theorem dX11_clock_2 : decode cX11_clock 2 = .ok (.putfield 83, 3) := by decide +kernel
theorem dX11_clock_5 : decode cX11_clock 5 = .ok (.aload_n 0, 1) := by decide +kernel
theorem dX11_clock_6 : decode cX11_clock 6 = .ok (.iload_n 1, 1) := by decide +kernel
theorem dX11_clock_7 : decode cX11_clock 7 = .ok (.invokevirtual 102, 3) := by decide +kernel
theorem dX11_clock_10 : decode cX11_clock 10 = .ok (.ifCond .eq 35, 3) := by decide +kernel
theorem dX11_clock_13 : decode cX11_clock 13 = .ok (.iload_n 2, 1) := by decide +kernel
theorem dX11_clock_14 : decode cX11_clock 14 = .ok (.invokestatic 106, 3) := by decide +kernel
theorem dX11_clock_17 : decode cX11_clock 17 = .ok (.ifCond .eq 28, 3) := by decide +kernel
theorem dX11_clock_20 : decode cX11_clock 20 = .ok (.iload_n 3, 1) := by decide +kernel
theorem dX11_clock_21 : decode cX11_clock 21 = .ok (.i2l, 1) := by decide +kernel
theorem dX11_clock_22 : decode cX11_clock 22 = .ok (.lconst 0, 1) := by decide +kernel
theorem dX11_clock_23 : decode cX11_clock 23 = .ok (.ldc2_w 109, 3) := by decide +kernel
theorem dX11_clock_26 : decode cX11_clock 26 = .ok (.invokestatic 90, 3) := by decide +kernel
theorem dX11_clock_29 : decode cX11_clock 29 = .ok (.ifCond .eq 16, 3) := by decide +kernel
theorem dX11_clock_32 : decode cX11_clock 32 = .ok (.aload_n 0, 1) := by decide +kernel
theorem dX11_clock_33 : decode cX11_clock 33 = .ok (.getfield 111, 3) := by decide +kernel
theorem dX11_clock_36 : decode cX11_clock 36 = .ok (.bipush 60, 2) := by decide +kernel
theorem dX11_clock_38 : decode cX11_clock 38 = .ok (.if_icmp .ge 7, 3) := by decide +kernel
theorem dX11_clock_41 : decode cX11_clock 41 = .ok (.iconst 1, 1) := by decide +kernel
theorem dX11_clock_42 : decode cX11_clock 42 = .ok (.goto 4, 3) := by decide +kernel
theorem dX11_clock_45 : decode cX11_clock 45 = .ok (.iconst 0, 1) := by decide +kernel
theorem dX11_clock_46 : decode cX11_clock 46 = .ok (.istore 5, 2) := by decide +kernel
theorem dX11_clock_48 : decode cX11_clock 48 = .ok (.iload 5, 2) := by decide +kernel
theorem dX11_clock_50 : decode cX11_clock 50 = .ok (.ifCond .eq 47, 3) := by decide +kernel
theorem dX11_clock_53 : decode cX11_clock 53 = .ok (.iload_n 3, 1) := by decide +kernel
theorem dX11_clock_54 : decode cX11_clock 54 = .ok (.iconst 1, 1) := by decide +kernel
theorem dX11_clock_55 : decode cX11_clock 55 = .ok (.if_icmp .ne 18, 3) := by decide +kernel
theorem dX11_clock_58 : decode cX11_clock 58 = .ok (.iload 4, 2) := by decide +kernel
theorem dX11_clock_60 : decode cX11_clock 60 = .ok (.i2l, 1) := by decide +kernel
theorem dX11_clock_61 : decode cX11_clock 61 = .ok (.ldc2_w 114, 3) := by decide +kernel
theorem dX11_clock_64 : decode cX11_clock 64 = .ok (.ldc2_w 116, 3) := by decide +kernel
theorem dX11_clock_67 : decode cX11_clock 67 = .ok (.invokestatic 90, 3) := by decide +kernel
theorem dX11_clock_70 : decode cX11_clock 70 = .ok (.ifCond .eq 27, 3) := by decide +kernel
theorem dX11_clock_73 : decode cX11_clock 73 = .ok (.iload_n 3, 1) := by decide +kernel
theorem dX11_clock_74 : decode cX11_clock 74 = .ok (.iconst 2, 1) := by decide +kernel
theorem dX11_clock_75 : decode cX11_clock 75 = .ok (.if_icmp .ne 18, 3) := by decide +kernel
theorem dX11_clock_78 : decode cX11_clock 78 = .ok (.aload_n 0, 1) := by decide +kernel
theorem dX11_clock_79 : decode cX11_clock 79 = .ok (.iload 4, 2) := by decide +kernel
theorem dX11_clock_81 : decode cX11_clock 81 = .ok (.invokevirtual 102, 3) := by decide +kernel
theorem dX11_clock_84 : decode cX11_clock 84 = .ok (.ifCond .eq 13, 3) := by decide +kernel
theorem dX11_clock_87 : decode cX11_clock 87 = .ok (.iload 4, 2) := by decide +kernel
theorem dX11_clock_89 : decode cX11_clock 89 = .ok (.iload_n 1, 1) := by decide +kernel
theorem dX11_clock_90 : decode cX11_clock 90 = .ok (.if_icmp .eq 7, 3) := by decide +kernel
theorem dX11_clock_93 : decode cX11_clock 93 = .ok (.iconst 1, 1) := by decide +kernel
theorem dX11_clock_94 : decode cX11_clock 94 = .ok (.goto 4, 3) := by decide +kernel
theorem dX11_clock_97 : decode cX11_clock 97 = .ok (.iconst 0, 1) := by decide +kernel
theorem dX11_clock_98 : decode cX11_clock 98 = .ok (.istore 5, 2) := by decide +kernel
theorem dX11_clock_100 : decode cX11_clock 100 = .ok (.iload 5, 2) := by decide +kernel
theorem dX11_clock_102 : decode cX11_clock 102 = .ok (.ifCond .ne 5, 3) := by decide +kernel
theorem dX11_clock_105 : decode cX11_clock 105 = .ok (.iconst (-1), 1) := by decide +kernel
theorem dX11_clock_106 : decode cX11_clock 106 = .ok (.ireturn, 1) := by decide +kernel
theorem dX11_clock_107 : decode cX11_clock 107 = .ok (.aload_n 0, 1) := by decide +kernel
theorem dX11_clock_108 : decode cX11_clock 108 = .ok (.getfield 13, 3) := by decide +kernel
theorem dX11_clock_111 : decode cX11_clock 111 = .ok (.aload_n 0, 1) := by decide +kernel
theorem dX11_clock_112 : decode cX11_clock 112 = .ok (.getfield 111, 3) := by decide +kernel
theorem dX11_clock_115 : decode cX11_clock 115 = .ok (.iload_n 1, 1) := by decide +kernel
theorem dX11_clock_116 : decode cX11_clock 116 = .ok (.iastore, 1) := by decide +kernel
theorem dX11_clock_117 : decode cX11_clock 117 = .ok (.aload_n 0, 1) := by decide +kernel
theorem dX11_clock_118 : decode cX11_clock 118 = .ok (.getfield 16, 3) := by decide +kernel
theorem dX11_clock_121 : decode cX11_clock 121 = .ok (.aload_n 0, 1) := by decide +kernel
theorem dX11_clock_122 : decode cX11_clock 122 = .ok (.getfield 111, 3) := by decide +kernel
theorem dX11_clock_125 : decode cX11_clock 125 = .ok (.iload_n 2, 1) := by decide +kernel
theorem dX11_clock_126 : decode cX11_clock 126 = .ok (.iastore, 1) := by decide +kernel
theorem dX11_clock_127 : decode cX11_clock 127 = .ok (.aload_n 0, 1) := by decide +kernel
theorem dX11_clock_128 : decode cX11_clock 128 = .ok (.getfield 19, 3) := by decide +kernel
theorem dX11_clock_131 : decode cX11_clock 131 = .ok (.aload_n 0, 1) := by decide +kernel
theorem dX11_clock_132 : decode cX11_clock 132 = .ok (.getfield 111, 3) := by decide +kernel
theorem dX11_clock_135 : decode cX11_clock 135 = .ok (.iload_n 3, 1) := by decide +kernel
theorem dX11_clock_136 : decode cX11_clock 136 = .ok (.iastore, 1) := by decide +kernel
theorem dX11_clock_137 : decode cX11_clock 137 = .ok (.aload_n 0, 1) := by decide +kernel
theorem dX11_clock_138 : decode cX11_clock 138 = .ok (.getfield 22, 3) := by decide +kernel
theorem dX11_clock_141 : decode cX11_clock 141 = .ok (.aload_n 0, 1) := by decide +kernel
theorem dX11_clock_142 : decode cX11_clock 142 = .ok (.getfield 111, 3) := by decide +kernel
theorem dX11_clock_145 : decode cX11_clock 145 = .ok (.iload 4, 2) := by decide +kernel
theorem dX11_clock_147 : decode cX11_clock 147 = .ok (.iastore, 1) := by decide +kernel
theorem dX11_clock_148 : decode cX11_clock 148 = .ok (.aload_n 0, 1) := by decide +kernel
theorem dX11_clock_149 : decode cX11_clock 149 = .ok (.dup, 1) := by decide +kernel
theorem dX11_clock_150 : decode cX11_clock 150 = .ok (.getfield 111, 3) := by decide +kernel
theorem dX11_clock_153 : decode cX11_clock 153 = .ok (.iconst 1, 1) := by decide +kernel
theorem dX11_clock_154 : decode cX11_clock 154 = .ok (.iadd, 1) := by decide +kernel
theorem dX11_clock_155 : decode cX11_clock 155 = .ok (.putfield 111, 3) := by decide +kernel
theorem dX11_clock_158 : decode cX11_clock 158 = .ok (.aload_n 0, 1) := by decide +kernel
theorem dX11_clock_159 : decode cX11_clock 159 = .ok (.getfield 111, 3) := by decide +kernel
theorem dX11_clock_162 : decode cX11_clock 162 = .ok (.ireturn, 1) := by decide +kernel
theorem dX11_untell_0 : decode cX11_untell 0 = .ok (.aload_n 0, 1) := by decide +kernel
theorem dX11_untell_1 : decode cX11_untell 1 = .ok (.iconst 0, 1) := by decide +kernel
theorem dX11_untell_2 : decode cX11_untell 2 = .ok (.putfield 83, 3) := by decide +kernel
theorem dX11_untell_5 : decode cX11_untell 5 = .ok (.aload_n 0, 1) := by decide +kernel
theorem dX11_untell_6 : decode cX11_untell 6 = .ok (.getfield 111, 3) := by decide +kernel
theorem dX11_untell_9 : decode cX11_untell 9 = .ok (.ifCond .ne 5, 3) := by decide +kernel
theorem dX11_untell_12 : decode cX11_untell 12 = .ok (.iconst (-1), 1) := by decide +kernel
theorem dX11_untell_13 : decode cX11_untell 13 = .ok (.ireturn, 1) := by decide +kernel
theorem dX11_untell_14 : decode cX11_untell 14 = .ok (.aload_n 0, 1) := by decide +kernel
theorem dX11_untell_15 : decode cX11_untell 15 = .ok (.dup, 1) := by decide +kernel
theorem dX11_untell_16 : decode cX11_untell 16 = .ok (.getfield 111, 3) := by decide +kernel
theorem dX11_untell_19 : decode cX11_untell 19 = .ok (.iconst 1, 1) := by decide +kernel
theorem dX11_untell_20 : decode cX11_untell 20 = .ok (.isub, 1) := by decide +kernel
theorem dX11_untell_21 : decode cX11_untell 21 = .ok (.putfield 111, 3) := by decide +kernel
theorem dX11_untell_24 : decode cX11_untell 24 = .ok (.aload_n 0, 1) := by decide +kernel
theorem dX11_untell_25 : decode cX11_untell 25 = .ok (.getfield 111, 3) := by decide +kernel
theorem dX11_untell_28 : decode cX11_untell 28 = .ok (.ireturn, 1) := by decide +kernel
theorem dX11_ahead_0 : decode cX11_ahead 0 = .ok (.iconst (-1), 1) := by decide +kernel
theorem dX11_ahead_1 : decode cX11_ahead 1 = .ok (.istore_n 3, 1) := by decide +kernel
theorem dX11_ahead_2 : decode cX11_ahead 2 = .ok (.aload_n 0, 1) := by decide +kernel
theorem dX11_ahead_3 : decode cX11_ahead 3 = .ok (.getfield 111, 3) := by decide +kernel
theorem dX11_ahead_6 : decode cX11_ahead 6 = .ok (.iconst 1, 1) := by decide +kernel
theorem dX11_ahead_7 : decode cX11_ahead 7 = .ok (.isub, 1) := by decide +kernel
theorem dX11_ahead_8 : decode cX11_ahead 8 = .ok (.istore 4, 2) := by decide +kernel
theorem dX11_ahead_10 : decode cX11_ahead 10 = .ok (.iload 4, 2) := by decide +kernel
theorem dX11_ahead_12 : decode cX11_ahead 12 = .ok (.ifCond .lt 54, 3) := by decide +kernel
theorem dX11_ahead_15 : decode cX11_ahead 15 = .ok (.aload_n 0, 1) := by decide +kernel
theorem dX11_ahead_16 : decode cX11_ahead 16 = .ok (.getfield 13, 3) := by decide +kernel
theorem dX11_ahead_19 : decode cX11_ahead 19 = .ok (.iload 4, 2) := by decide +kernel
theorem dX11_ahead_21 : decode cX11_ahead 21 = .ok (.iaload, 1) := by decide +kernel
theorem dX11_ahead_22 : decode cX11_ahead 22 = .ok (.iload_n 1, 1) := by decide +kernel
theorem dX11_ahead_23 : decode cX11_ahead 23 = .ok (.if_icmp .ne 37, 3) := by decide +kernel
theorem dX11_ahead_26 : decode cX11_ahead 26 = .ok (.aload_n 0, 1) := by decide +kernel
theorem dX11_ahead_27 : decode cX11_ahead 27 = .ok (.getfield 16, 3) := by decide +kernel
theorem dX11_ahead_30 : decode cX11_ahead 30 = .ok (.iload 4, 2) := by decide +kernel
theorem dX11_ahead_32 : decode cX11_ahead 32 = .ok (.iaload, 1) := by decide +kernel
theorem dX11_ahead_33 : decode cX11_ahead 33 = .ok (.iload_n 2, 1) := by decide +kernel
theorem dX11_ahead_34 : decode cX11_ahead 34 = .ok (.if_icmp .gt 26, 3) := by decide +kernel
theorem dX11_ahead_37 : decode cX11_ahead 37 = .ok (.iload_n 3, 1) := by decide +kernel
theorem dX11_ahead_38 : decode cX11_ahead 38 = .ok (.ifCond .lt 19, 3) := by decide +kernel
theorem dX11_ahead_41 : decode cX11_ahead 41 = .ok (.aload_n 0, 1) := by decide +kernel
theorem dX11_ahead_42 : decode cX11_ahead 42 = .ok (.getfield 16, 3) := by decide +kernel
theorem dX11_ahead_45 : decode cX11_ahead 45 = .ok (.iload 4, 2) := by decide +kernel
theorem dX11_ahead_47 : decode cX11_ahead 47 = .ok (.iaload, 1) := by decide +kernel
theorem dX11_ahead_48 : decode cX11_ahead 48 = .ok (.aload_n 0, 1) := by decide +kernel
theorem dX11_ahead_49 : decode cX11_ahead 49 = .ok (.getfield 16, 3) := by decide +kernel
theorem dX11_ahead_52 : decode cX11_ahead 52 = .ok (.iload_n 3, 1) := by decide +kernel
theorem dX11_ahead_53 : decode cX11_ahead 53 = .ok (.iaload, 1) := by decide +kernel
theorem dX11_ahead_54 : decode cX11_ahead 54 = .ok (.if_icmp .le 6, 3) := by decide +kernel
theorem dX11_ahead_57 : decode cX11_ahead 57 = .ok (.iload 4, 2) := by decide +kernel
theorem dX11_ahead_59 : decode cX11_ahead 59 = .ok (.istore_n 3, 1) := by decide +kernel
theorem dX11_ahead_60 : decode cX11_ahead 60 = .ok (.iinc 4 (-1), 3) := by decide +kernel
theorem dX11_ahead_63 : decode cX11_ahead 63 = .ok (.goto (-53), 3) := by decide +kernel
theorem dX11_ahead_66 : decode cX11_ahead 66 = .ok (.iload_n 3, 1) := by decide +kernel
theorem dX11_ahead_67 : decode cX11_ahead 67 = .ok (.ifCond .lt 12, 3) := by decide +kernel
theorem dX11_ahead_70 : decode cX11_ahead 70 = .ok (.aload_n 0, 1) := by decide +kernel
theorem dX11_ahead_71 : decode cX11_ahead 71 = .ok (.getfield 19, 3) := by decide +kernel
theorem dX11_ahead_74 : decode cX11_ahead 74 = .ok (.iload_n 3, 1) := by decide +kernel
theorem dX11_ahead_75 : decode cX11_ahead 75 = .ok (.iaload, 1) := by decide +kernel
theorem dX11_ahead_76 : decode cX11_ahead 76 = .ok (.ifCond .ne 10, 3) := by decide +kernel
theorem dX11_ahead_79 : decode cX11_ahead 79 = .ok (.aload_n 0, 1) := by decide +kernel
theorem dX11_ahead_80 : decode cX11_ahead 80 = .ok (.getfield 9, 3) := by decide +kernel
theorem dX11_ahead_83 : decode cX11_ahead 83 = .ok (.iload_n 1, 1) := by decide +kernel
theorem dX11_ahead_84 : decode cX11_ahead 84 = .ok (.iaload, 1) := by decide +kernel
theorem dX11_ahead_85 : decode cX11_ahead 85 = .ok (.ireturn, 1) := by decide +kernel
theorem dX11_ahead_86 : decode cX11_ahead 86 = .ok (.aload_n 0, 1) := by decide +kernel
theorem dX11_ahead_87 : decode cX11_ahead 87 = .ok (.getfield 19, 3) := by decide +kernel
theorem dX11_ahead_90 : decode cX11_ahead 90 = .ok (.iload_n 3, 1) := by decide +kernel
theorem dX11_ahead_91 : decode cX11_ahead 91 = .ok (.iaload, 1) := by decide +kernel
theorem dX11_ahead_92 : decode cX11_ahead 92 = .ok (.iconst 1, 1) := by decide +kernel
theorem dX11_ahead_93 : decode cX11_ahead 93 = .ok (.if_icmp .ne 15, 3) := by decide +kernel
theorem dX11_ahead_96 : decode cX11_ahead 96 = .ok (.bipush 60, 2) := by decide +kernel
theorem dX11_ahead_98 : decode cX11_ahead 98 = .ok (.aload_n 0, 1) := by decide +kernel
theorem dX11_ahead_99 : decode cX11_ahead 99 = .ok (.getfield 22, 3) := by decide +kernel
theorem dX11_ahead_102 : decode cX11_ahead 102 = .ok (.iload_n 3, 1) := by decide +kernel
theorem dX11_ahead_103 : decode cX11_ahead 103 = .ok (.iaload, 1) := by decide +kernel
theorem dX11_ahead_104 : decode cX11_ahead 104 = .ok (.imul, 1) := by decide +kernel
theorem dX11_ahead_105 : decode cX11_ahead 105 = .ok (.goto 14, 3) := by decide +kernel
theorem dX11_ahead_108 : decode cX11_ahead 108 = .ok (.aload_n 0, 1) := by decide +kernel
theorem dX11_ahead_109 : decode cX11_ahead 109 = .ok (.getfield 9, 3) := by decide +kernel
theorem dX11_ahead_112 : decode cX11_ahead 112 = .ok (.aload_n 0, 1) := by decide +kernel
theorem dX11_ahead_113 : decode cX11_ahead 113 = .ok (.getfield 22, 3) := by decide +kernel
theorem dX11_ahead_116 : decode cX11_ahead 116 = .ok (.iload_n 3, 1) := by decide +kernel
theorem dX11_ahead_117 : decode cX11_ahead 117 = .ok (.iaload, 1) := by decide +kernel
theorem dX11_ahead_118 : decode cX11_ahead 118 = .ok (.iaload, 1) := by decide +kernel
theorem dX11_ahead_119 : decode cX11_ahead 119 = .ok (.ireturn, 1) := by decide +kernel
theorem dX11_count_0 : decode cX11_count 0 = .ok (.aload_n 0, 1) := by decide +kernel
theorem dX11_count_1 : decode cX11_count 1 = .ok (.iconst 0, 1) := by decide +kernel
theorem dX11_count_2 : decode cX11_count 2 = .ok (.putfield 83, 3) := by decide +kernel
theorem dX11_count_5 : decode cX11_count 5 = .ok (.iload_n 1, 1) := by decide +kernel
theorem dX11_count_6 : decode cX11_count 6 = .ok (.tableswitch 86 0 7 #[46, 51, 56, 61, 66, 71, 76, 81], 46) := by decide +kernel
theorem dX11_count_52 : decode cX11_count 52 = .ok (.aload_n 0, 1) := by decide +kernel
theorem dX11_count_53 : decode cX11_count 53 = .ok (.getfield 87, 3) := by decide +kernel
theorem dX11_count_56 : decode cX11_count 56 = .ok (.ireturn, 1) := by decide +kernel
theorem dX11_count_57 : decode cX11_count 57 = .ok (.aload_n 0, 1) := by decide +kernel
theorem dX11_count_58 : decode cX11_count 58 = .ok (.getfield 111, 3) := by decide +kernel
theorem dX11_count_61 : decode cX11_count 61 = .ok (.ireturn, 1) := by decide +kernel
theorem dX11_count_62 : decode cX11_count 62 = .ok (.aload_n 0, 1) := by decide +kernel
theorem dX11_count_63 : decode cX11_count 63 = .ok (.getfield 118, 3) := by decide +kernel
theorem dX11_count_66 : decode cX11_count 66 = .ok (.ireturn, 1) := by decide +kernel
theorem dX11_count_67 : decode cX11_count 67 = .ok (.aload_n 0, 1) := by decide +kernel
theorem dX11_count_68 : decode cX11_count 68 = .ok (.getfield 121, 3) := by decide +kernel
theorem dX11_count_71 : decode cX11_count 71 = .ok (.ireturn, 1) := by decide +kernel
theorem dX11_count_72 : decode cX11_count 72 = .ok (.aload_n 0, 1) := by decide +kernel
theorem dX11_count_73 : decode cX11_count 73 = .ok (.getfield 124, 3) := by decide +kernel
theorem dX11_count_76 : decode cX11_count 76 = .ok (.ireturn, 1) := by decide +kernel
theorem dX11_count_77 : decode cX11_count 77 = .ok (.aload_n 0, 1) := by decide +kernel
theorem dX11_count_78 : decode cX11_count 78 = .ok (.getfield 127, 3) := by decide +kernel
theorem dX11_count_81 : decode cX11_count 81 = .ok (.ireturn, 1) := by decide +kernel
theorem dX11_count_82 : decode cX11_count 82 = .ok (.aload_n 0, 1) := by decide +kernel
theorem dX11_count_83 : decode cX11_count 83 = .ok (.getfield 130, 3) := by decide +kernel
theorem dX11_count_86 : decode cX11_count 86 = .ok (.ireturn, 1) := by decide +kernel
theorem dX11_count_87 : decode cX11_count 87 = .ok (.aload_n 0, 1) := by decide +kernel
theorem dX11_count_88 : decode cX11_count 88 = .ok (.getfield 133, 3) := by decide +kernel
theorem dX11_count_91 : decode cX11_count 91 = .ok (.ireturn, 1) := by decide +kernel
theorem dX11_count_92 : decode cX11_count 92 = .ok (.iconst (-1), 1) := by decide +kernel
theorem dX11_count_93 : decode cX11_count 93 = .ok (.ireturn, 1) := by decide +kernel
set_option maxRecDepth 20000 in
theorem ggX11_read_X11_isTown : GoodIn wsX11_read wsX11_isTown := goodIn_r _ [6, 7, 8, 9, 5, 10, 29, 30, 31, 32, 33, 34, 35, 36, 37, 38, 39, 40, 41, 42, 43, 44, 45, 46, 47, 48, 49, 50, 51, 52, 53, 54, 55, 56, 57, 58, 59, 60, 61, 62, 63, 64, 65, 66] (by decide +kernel) (by decide +kernel)
set_option maxRecDepth 20000 in
theorem gX11_read_X11_isTown : GoodIn wsX11_read (wsV RX11 102 RX11 yX11_isTown wsX11_isTown) := goodIn_app (goodIn_of _ (by decide +kernel)) ggX11_read_X11_isTown
set_option maxRecDepth 20000 in
theorem ggX11_read_X11_isMinute : GoodIn wsX11_read wsX11_isMinute := goodIn_r _ [13, 14, 8, 9, 5, 10] (by decide +kernel) (by decide +kernel)
set_option maxRecDepth 20000 in
theorem gX11_read_X11_isMinute : GoodIn wsX11_read (va_wsS RX11 136 yX11_isMinute wsX11_isMinute) := goodIn_app (goodIn_of _ (by decide +kernel)) ggX11_read_X11_isMinute
set_option maxRecDepth 20000 in
theorem ggX11_read_X11_ahead : GoodIn wsX11_read wsX11_ahead := goodIn_r _ [18, 19, 20, 21, 22, 23, 24, 29, 30, 31, 32, 33, 34, 35, 36, 37, 38, 39, 40, 41, 42, 43, 44, 45, 46, 47, 48, 49, 50, 51, 52, 53, 54, 55, 56, 57, 58, 59, 60, 61, 62, 63, 64, 65, 66] (by decide +kernel) (by decide +kernel)
set_option maxRecDepth 20000 in
theorem gX11_read_X11_ahead : GoodIn wsX11_read (wsV RX11 139 RX11 yX11_ahead wsX11_ahead) := goodIn_app (goodIn_of _ (by decide +kernel)) ggX11_read_X11_ahead
set_option maxRecDepth 20000 in
theorem ggX11_read_X11_refuse : GoodIn wsX11_read wsX11_refuse := goodIn_r _ [28, 1, 29, 30, 31, 32, 33, 34, 35, 36, 37, 38, 39, 40, 41, 42, 43, 44, 45, 46, 47, 48, 49, 50, 51, 52, 53, 54, 55, 56, 57, 58, 59, 60, 61, 62, 63, 64, 65, 66] (by decide +kernel) (by decide +kernel)
set_option maxRecDepth 20000 in
theorem gX11_read_X11_refuse : GoodIn wsX11_read (wsV RX11 143 RX11 yX11_refuse wsX11_refuse) := goodIn_app (goodIn_of _ (by decide +kernel)) ggX11_read_X11_refuse
theorem dX11_read_0 : decode cX11_read 0 = .ok (.aload_n 0, 1) := by decide +kernel
theorem dX11_read_1 : decode cX11_read 1 = .ok (.iconst 0, 1) := by decide +kernel
theorem dX11_read_2 : decode cX11_read 2 = .ok (.putfield 83, 3) := by decide +kernel
theorem dX11_read_5 : decode cX11_read 5 = .ok (.aload_n 0, 1) := by decide +kernel
theorem dX11_read_6 : decode cX11_read 6 = .ok (.iload_n 1, 1) := by decide +kernel
theorem dX11_read_7 : decode cX11_read 7 = .ok (.invokevirtual 102, 3) := by decide +kernel
theorem dX11_read_10 : decode cX11_read 10 = .ok (.ifCond .eq 25, 3) := by decide +kernel
theorem dX11_read_13 : decode cX11_read 13 = .ok (.iload_n 2, 1) := by decide +kernel
theorem dX11_read_14 : decode cX11_read 14 = .ok (.invokestatic 136, 3) := by decide +kernel
theorem dX11_read_17 : decode cX11_read 17 = .ok (.ifCond .eq 18, 3) := by decide +kernel
theorem dX11_read_20 : decode cX11_read 20 = .ok (.iload_n 2, 1) := by decide +kernel
theorem dX11_read_21 : decode cX11_read 21 = .ok (.aload_n 0, 1) := by decide +kernel
theorem dX11_read_22 : decode cX11_read 22 = .ok (.iload_n 1, 1) := by decide +kernel
theorem dX11_read_23 : decode cX11_read 23 = .ok (.iload_n 2, 1) := by decide +kernel
theorem dX11_read_24 : decode cX11_read 24 = .ok (.sipush 1440, 3) := by decide +kernel
theorem dX11_read_27 : decode cX11_read 27 = .ok (.idiv, 1) := by decide +kernel
theorem dX11_read_28 : decode cX11_read 28 = .ok (.invokevirtual 139, 3) := by decide +kernel
theorem dX11_read_31 : decode cX11_read 31 = .ok (.iadd, 1) := by decide +kernel
theorem dX11_read_32 : decode cX11_read 32 = .ok (.goto 7, 3) := by decide +kernel
theorem dX11_read_35 : decode cX11_read 35 = .ok (.aload_n 0, 1) := by decide +kernel
theorem dX11_read_36 : decode cX11_read 36 = .ok (.invokevirtual 143, 3) := by decide +kernel
theorem dX11_read_39 : decode cX11_read 39 = .ok (.ireturn, 1) := by decide +kernel
set_option maxRecDepth 20000 in
theorem ggX11_when_X11_isTown : GoodIn wsX11_when wsX11_isTown := goodIn_r _ [9, 10, 11, 12, 8, 13, 24, 25, 26, 27, 28, 29, 30, 31, 32, 33, 34, 35, 36, 37, 38, 39, 40, 41, 42, 43, 44, 45, 46, 47, 48, 49, 50, 51, 52, 53, 54, 55, 56, 57, 58, 59, 60, 61] (by decide +kernel) (by decide +kernel)
set_option maxRecDepth 20000 in
theorem gX11_when_X11_isTown : GoodIn wsX11_when (wsV RX11 102 RX11 yX11_isTown wsX11_isTown) := goodIn_app (goodIn_of _ (by decide +kernel)) ggX11_when_X11_isTown
set_option maxRecDepth 20000 in
theorem ggX11_when_X11_ahead : GoodIn wsX11_when wsX11_ahead := goodIn_r _ [17, 18, 19, 20, 21, 22, 23, 24, 25, 26, 27, 28, 29, 30, 31, 32, 33, 34, 35, 36, 37, 38, 39, 40, 41, 42, 43, 44, 45, 46, 47, 48, 49, 50, 51, 52, 53, 54, 55, 56, 57, 58, 59, 60, 61] (by decide +kernel) (by decide +kernel)
set_option maxRecDepth 20000 in
theorem gX11_when_X11_ahead : GoodIn wsX11_when (wsV RX11 139 RX11 yX11_ahead wsX11_ahead) := goodIn_app (goodIn_of _ (by decide +kernel)) ggX11_when_X11_ahead
set_option maxRecDepth 20000 in
theorem ggX11_when_X11_in : GoodIn wsX11_when wsX11_in := goodIn_r _ [13] (by decide +kernel) (by decide +kernel)
set_option maxRecDepth 20000 in
theorem gX11_when_X11_in : GoodIn wsX11_when (va_wsS RX11 90 yX11_in wsX11_in) := goodIn_app (goodIn_of _ (by decide +kernel)) ggX11_when_X11_in
theorem dX11_when_0 : decode cX11_when 0 = .ok (.aload_n 0, 1) := by decide +kernel
theorem dX11_when_1 : decode cX11_when 1 = .ok (.iconst 0, 1) := by decide +kernel
theorem dX11_when_2 : decode cX11_when 2 = .ok (.putfield 83, 3) := by decide +kernel
theorem dX11_when_5 : decode cX11_when 5 = .ok (.aload_n 0, 1) := by decide +kernel
theorem dX11_when_6 : decode cX11_when 6 = .ok (.iload_n 1, 1) := by decide +kernel
theorem dX11_when_7 : decode cX11_when 7 = .ok (.invokevirtual 102, 3) := by decide +kernel
theorem dX11_when_10 : decode cX11_when 10 = .ok (.ifCond .ne 5, 3) := by decide +kernel
theorem dX11_when_13 : decode cX11_when 13 = .ok (.iconst (-1), 1) := by decide +kernel
theorem dX11_when_14 : decode cX11_when 14 = .ok (.ireturn, 1) := by decide +kernel
theorem dX11_when_15 : decode cX11_when 15 = .ok (.aload_n 0, 1) := by decide +kernel
theorem dX11_when_16 : decode cX11_when 16 = .ok (.iconst 0, 1) := by decide +kernel
theorem dX11_when_17 : decode cX11_when 17 = .ok (.putfield 130, 3) := by decide +kernel
theorem dX11_when_20 : decode cX11_when 20 = .ok (.iconst 0, 1) := by decide +kernel
theorem dX11_when_21 : decode cX11_when 21 = .ok (.istore_n 3, 1) := by decide +kernel
theorem dX11_when_22 : decode cX11_when 22 = .ok (.iload_n 3, 1) := by decide +kernel
theorem dX11_when_23 : decode cX11_when 23 = .ok (.sipush 400, 3) := by decide +kernel
theorem dX11_when_26 : decode cX11_when 26 = .ok (.if_icmp .ge 69, 3) := by decide +kernel
theorem dX11_when_29 : decode cX11_when 29 = .ok (.iload_n 2, 1) := by decide +kernel
theorem dX11_when_30 : decode cX11_when 30 = .ok (.i2l, 1) := by decide +kernel
theorem dX11_when_31 : decode cX11_when 31 = .ok (.aload_n 0, 1) := by decide +kernel
theorem dX11_when_32 : decode cX11_when 32 = .ok (.iload_n 1, 1) := by decide +kernel
theorem dX11_when_33 : decode cX11_when 33 = .ok (.iload_n 3, 1) := by decide +kernel
theorem dX11_when_34 : decode cX11_when 34 = .ok (.invokevirtual 139, 3) := by decide +kernel
theorem dX11_when_37 : decode cX11_when 37 = .ok (.i2l, 1) := by decide +kernel
theorem dX11_when_38 : decode cX11_when 38 = .ok (.lsub, 1) := by decide +kernel
theorem dX11_when_39 : decode cX11_when 39 = .ok (.lstore 4, 2) := by decide +kernel
theorem dX11_when_41 : decode cX11_when 41 = .ok (.lload 4, 2) := by decide +kernel
theorem dX11_when_43 : decode cX11_when 43 = .ok (.iload_n 3, 1) := by decide +kernel
theorem dX11_when_44 : decode cX11_when 44 = .ok (.i2l, 1) := by decide +kernel
theorem dX11_when_45 : decode cX11_when 45 = .ok (.ldc2_w 147, 3) := by decide +kernel
theorem dX11_when_48 : decode cX11_when 48 = .ok (.lmul, 1) := by decide +kernel
theorem dX11_when_49 : decode cX11_when 49 = .ok (.iload_n 3, 1) := by decide +kernel
theorem dX11_when_50 : decode cX11_when 50 = .ok (.i2l, 1) := by decide +kernel
theorem dX11_when_51 : decode cX11_when 51 = .ok (.ldc2_w 147, 3) := by decide +kernel
theorem dX11_when_54 : decode cX11_when 54 = .ok (.lmul, 1) := by decide +kernel
theorem dX11_when_55 : decode cX11_when 55 = .ok (.ldc2_w 147, 3) := by decide +kernel
theorem dX11_when_58 : decode cX11_when 58 = .ok (.ladd, 1) := by decide +kernel
theorem dX11_when_59 : decode cX11_when 59 = .ok (.lconst 1, 1) := by decide +kernel
theorem dX11_when_60 : decode cX11_when 60 = .ok (.lsub, 1) := by decide +kernel
theorem dX11_when_61 : decode cX11_when 61 = .ok (.invokestatic 90, 3) := by decide +kernel
theorem dX11_when_64 : decode cX11_when 64 = .ok (.ifCond .eq 25, 3) := by decide +kernel
theorem dX11_when_67 : decode cX11_when 67 = .ok (.aload_n 0, 1) := by decide +kernel
theorem dX11_when_68 : decode cX11_when 68 = .ok (.getfield 25, 3) := by decide +kernel
theorem dX11_when_71 : decode cX11_when 71 = .ok (.aload_n 0, 1) := by decide +kernel
theorem dX11_when_72 : decode cX11_when 72 = .ok (.getfield 130, 3) := by decide +kernel
theorem dX11_when_75 : decode cX11_when 75 = .ok (.lload 4, 2) := by decide +kernel
theorem dX11_when_77 : decode cX11_when 77 = .ok (.l2i, 1) := by decide +kernel
theorem dX11_when_78 : decode cX11_when 78 = .ok (.iastore, 1) := by decide +kernel
theorem dX11_when_79 : decode cX11_when 79 = .ok (.aload_n 0, 1) := by decide +kernel
theorem dX11_when_80 : decode cX11_when 80 = .ok (.dup, 1) := by decide +kernel
theorem dX11_when_81 : decode cX11_when 81 = .ok (.getfield 130, 3) := by decide +kernel
theorem dX11_when_84 : decode cX11_when 84 = .ok (.iconst 1, 1) := by decide +kernel
theorem dX11_when_85 : decode cX11_when 85 = .ok (.iadd, 1) := by decide +kernel
theorem dX11_when_86 : decode cX11_when 86 = .ok (.putfield 130, 3) := by decide +kernel
theorem dX11_when_89 : decode cX11_when 89 = .ok (.iinc 3 1, 3) := by decide +kernel
theorem dX11_when_92 : decode cX11_when 92 = .ok (.goto (-70), 3) := by decide +kernel
theorem dX11_when_95 : decode cX11_when 95 = .ok (.aload_n 0, 1) := by decide +kernel
theorem dX11_when_96 : decode cX11_when 96 = .ok (.getfield 130, 3) := by decide +kernel
theorem dX11_when_99 : decode cX11_when 99 = .ok (.ireturn, 1) := by decide +kernel
set_option maxRecDepth 20000 in
theorem ggX11_firstAt_X11_ahead : GoodIn wsX11_firstAt wsX11_ahead := goodIn_r _ [6, 7, 8, 9, 10, 11, 12, 16, 17, 18, 19, 20, 21, 22, 23, 24, 25, 26, 27, 28, 29, 30, 31, 32, 33, 34, 35, 36, 37, 38, 39, 40, 41, 42, 43, 44, 45, 46, 47, 48, 49, 50, 51, 52, 53] (by decide +kernel) (by decide +kernel)
set_option maxRecDepth 20000 in
theorem gX11_firstAt_X11_ahead : GoodIn wsX11_firstAt (wsV RX11 139 RX11 yX11_ahead wsX11_ahead) := goodIn_app (goodIn_of _ (by decide +kernel)) ggX11_firstAt_X11_ahead
set_option maxRecDepth 20000 in
theorem ggX11_firstAt_X11_in : GoodIn wsX11_firstAt wsX11_in := goodIn_r _ [15] (by decide +kernel) (by decide +kernel)
set_option maxRecDepth 20000 in
theorem gX11_firstAt_X11_in : GoodIn wsX11_firstAt (va_wsS RX11 90 yX11_in wsX11_in) := goodIn_app (goodIn_of _ (by decide +kernel)) ggX11_firstAt_X11_in
theorem dX11_firstAt_0 : decode cX11_firstAt 0 = .ok (.iconst 0, 1) := by decide +kernel
theorem dX11_firstAt_1 : decode cX11_firstAt 1 = .ok (.istore 4, 2) := by decide +kernel
theorem dX11_firstAt_3 : decode cX11_firstAt 3 = .ok (.iload 4, 2) := by decide +kernel
theorem dX11_firstAt_5 : decode cX11_firstAt 5 = .ok (.sipush 400, 3) := by decide +kernel
theorem dX11_firstAt_8 : decode cX11_firstAt 8 = .ok (.if_icmp .ge 53, 3) := by decide +kernel
theorem dX11_firstAt_11 : decode cX11_firstAt 11 = .ok (.lload_n 2, 1) := by decide +kernel
theorem dX11_firstAt_12 : decode cX11_firstAt 12 = .ok (.aload_n 0, 1) := by decide +kernel
theorem dX11_firstAt_13 : decode cX11_firstAt 13 = .ok (.iload_n 1, 1) := by decide +kernel
theorem dX11_firstAt_14 : decode cX11_firstAt 14 = .ok (.iload 4, 2) := by decide +kernel
theorem dX11_firstAt_16 : decode cX11_firstAt 16 = .ok (.invokevirtual 139, 3) := by decide +kernel
theorem dX11_firstAt_19 : decode cX11_firstAt 19 = .ok (.i2l, 1) := by decide +kernel
theorem dX11_firstAt_20 : decode cX11_firstAt 20 = .ok (.lsub, 1) := by decide +kernel
theorem dX11_firstAt_21 : decode cX11_firstAt 21 = .ok (.lstore 5, 2) := by decide +kernel
theorem dX11_firstAt_23 : decode cX11_firstAt 23 = .ok (.lload 5, 2) := by decide +kernel
theorem dX11_firstAt_25 : decode cX11_firstAt 25 = .ok (.iload 4, 2) := by decide +kernel
theorem dX11_firstAt_27 : decode cX11_firstAt 27 = .ok (.i2l, 1) := by decide +kernel
theorem dX11_firstAt_28 : decode cX11_firstAt 28 = .ok (.ldc2_w 147, 3) := by decide +kernel
theorem dX11_firstAt_31 : decode cX11_firstAt 31 = .ok (.lmul, 1) := by decide +kernel
theorem dX11_firstAt_32 : decode cX11_firstAt 32 = .ok (.iload 4, 2) := by decide +kernel
theorem dX11_firstAt_34 : decode cX11_firstAt 34 = .ok (.i2l, 1) := by decide +kernel
theorem dX11_firstAt_35 : decode cX11_firstAt 35 = .ok (.ldc2_w 147, 3) := by decide +kernel
theorem dX11_firstAt_38 : decode cX11_firstAt 38 = .ok (.lmul, 1) := by decide +kernel
theorem dX11_firstAt_39 : decode cX11_firstAt 39 = .ok (.ldc2_w 147, 3) := by decide +kernel
theorem dX11_firstAt_42 : decode cX11_firstAt 42 = .ok (.ladd, 1) := by decide +kernel
theorem dX11_firstAt_43 : decode cX11_firstAt 43 = .ok (.lconst 1, 1) := by decide +kernel
theorem dX11_firstAt_44 : decode cX11_firstAt 44 = .ok (.lsub, 1) := by decide +kernel
theorem dX11_firstAt_45 : decode cX11_firstAt 45 = .ok (.invokestatic 90, 3) := by decide +kernel
theorem dX11_firstAt_48 : decode cX11_firstAt 48 = .ok (.ifCond .eq 7, 3) := by decide +kernel
theorem dX11_firstAt_51 : decode cX11_firstAt 51 = .ok (.lload 5, 2) := by decide +kernel
theorem dX11_firstAt_53 : decode cX11_firstAt 53 = .ok (.l2i, 1) := by decide +kernel
theorem dX11_firstAt_54 : decode cX11_firstAt 54 = .ok (.ireturn, 1) := by decide +kernel
theorem dX11_firstAt_55 : decode cX11_firstAt 55 = .ok (.iinc 4 1, 3) := by decide +kernel
theorem dX11_firstAt_58 : decode cX11_firstAt 58 = .ok (.goto (-55), 3) := by decide +kernel
theorem dX11_firstAt_61 : decode cX11_firstAt 61 = .ok (.iconst (-1), 1) := by decide +kernel
theorem dX11_firstAt_62 : decode cX11_firstAt 62 = .ok (.ireturn, 1) := by decide +kernel
set_option maxRecDepth 20000 in
theorem ggX11_turned_X11_isTown : GoodIn wsX11_turned wsX11_isTown := goodIn_r _ [6, 7, 8, 9, 5, 10, 30, 31, 32, 33, 34, 35, 36, 37, 38, 39, 40, 41, 42, 43, 44, 45, 46, 47, 48, 49, 50, 51, 52, 53, 54, 55, 56, 57, 58, 59, 60, 61, 62, 63, 64, 65, 66, 67] (by decide +kernel) (by decide +kernel)
set_option maxRecDepth 20000 in
theorem gX11_turned_X11_isTown : GoodIn wsX11_turned (wsV RX11 102 RX11 yX11_isTown wsX11_isTown) := goodIn_app (goodIn_of _ (by decide +kernel)) ggX11_turned_X11_isTown
set_option maxRecDepth 20000 in
theorem ggX11_turned_X11_firstAt : GoodIn wsX11_turned wsX11_firstAt := goodIn_r _ [14, 15, 16, 17, 18, 5, 19, 20, 21, 22, 23, 24, 25, 8, 9, 10, 30, 31, 32, 33, 34, 35, 36, 37, 38, 39, 40, 41, 42, 43, 44, 45, 46, 47, 48, 49, 50, 51, 52, 53, 54, 55, 56, 57, 58, 59, 60, 61, 62, 63, 64, 65, 66, 67] (by decide +kernel) (by decide +kernel)
set_option maxRecDepth 20000 in
theorem gX11_turned_X11_firstAt : GoodIn wsX11_turned (wsV RX11 149 RX11 yX11_firstAt wsX11_firstAt) := goodIn_app (goodIn_of _ (by decide +kernel)) ggX11_turned_X11_firstAt
set_option maxRecDepth 20000 in
theorem ggX11_turned_X11_refuse : GoodIn wsX11_turned wsX11_refuse := goodIn_r _ [29, 1, 30, 31, 32, 33, 34, 35, 36, 37, 38, 39, 40, 41, 42, 43, 44, 45, 46, 47, 48, 49, 50, 51, 52, 53, 54, 55, 56, 57, 58, 59, 60, 61, 62, 63, 64, 65, 66, 67] (by decide +kernel) (by decide +kernel)
set_option maxRecDepth 20000 in
theorem gX11_turned_X11_refuse : GoodIn wsX11_turned (wsV RX11 143 RX11 yX11_refuse wsX11_refuse) := goodIn_app (goodIn_of _ (by decide +kernel)) ggX11_turned_X11_refuse
set_option maxRecDepth 20000 in
theorem ggX11_turned_X11_ahead : GoodIn wsX11_turned wsX11_ahead := goodIn_r _ [19, 20, 21, 22, 23, 24, 25, 30, 31, 32, 33, 34, 35, 36, 37, 38, 39, 40, 41, 42, 43, 44, 45, 46, 47, 48, 49, 50, 51, 52, 53, 54, 55, 56, 57, 58, 59, 60, 61, 62, 63, 64, 65, 66, 67] (by decide +kernel) (by decide +kernel)
set_option maxRecDepth 20000 in
theorem gX11_turned_X11_ahead : GoodIn wsX11_turned (wsV RX11 139 RX11 yX11_ahead wsX11_ahead) := goodIn_app (goodIn_of _ (by decide +kernel)) ggX11_turned_X11_ahead
theorem dX11_turned_0 : decode cX11_turned 0 = .ok (.aload_n 0, 1) := by decide +kernel
theorem dX11_turned_1 : decode cX11_turned 1 = .ok (.iconst 0, 1) := by decide +kernel
theorem dX11_turned_2 : decode cX11_turned 2 = .ok (.putfield 83, 3) := by decide +kernel
theorem dX11_turned_5 : decode cX11_turned 5 = .ok (.aload_n 0, 1) := by decide +kernel
theorem dX11_turned_6 : decode cX11_turned 6 = .ok (.iload_n 1, 1) := by decide +kernel
theorem dX11_turned_7 : decode cX11_turned 7 = .ok (.invokevirtual 102, 3) := by decide +kernel
theorem dX11_turned_10 : decode cX11_turned 10 = .ok (.ifCond .eq 21, 3) := by decide +kernel
theorem dX11_turned_13 : decode cX11_turned 13 = .ok (.aload_n 0, 1) := by decide +kernel
theorem dX11_turned_14 : decode cX11_turned 14 = .ok (.iload_n 3, 1) := by decide +kernel
theorem dX11_turned_15 : decode cX11_turned 15 = .ok (.invokevirtual 102, 3) := by decide +kernel
theorem dX11_turned_18 : decode cX11_turned 18 = .ok (.ifCond .eq 13, 3) := by decide +kernel
theorem dX11_turned_21 : decode cX11_turned 21 = .ok (.aload_n 0, 1) := by decide +kernel
theorem dX11_turned_22 : decode cX11_turned 22 = .ok (.iload_n 1, 1) := by decide +kernel
theorem dX11_turned_23 : decode cX11_turned 23 = .ok (.iload_n 2, 1) := by decide +kernel
theorem dX11_turned_24 : decode cX11_turned 24 = .ok (.i2l, 1) := by decide +kernel
theorem dX11_turned_25 : decode cX11_turned 25 = .ok (.invokevirtual 149, 3) := by decide +kernel
theorem dX11_turned_28 : decode cX11_turned 28 = .ok (.goto 4, 3) := by decide +kernel
theorem dX11_turned_31 : decode cX11_turned 31 = .ok (.iconst (-1), 1) := by decide +kernel
theorem dX11_turned_32 : decode cX11_turned 32 = .ok (.istore 4, 2) := by decide +kernel
theorem dX11_turned_34 : decode cX11_turned 34 = .ok (.iload 4, 2) := by decide +kernel
theorem dX11_turned_36 : decode cX11_turned 36 = .ok (.ifCond .ge 10, 3) := by decide +kernel
theorem dX11_turned_39 : decode cX11_turned 39 = .ok (.aload_n 0, 1) := by decide +kernel
theorem dX11_turned_40 : decode cX11_turned 40 = .ok (.invokevirtual 143, 3) := by decide +kernel
theorem dX11_turned_43 : decode cX11_turned 43 = .ok (.goto 17, 3) := by decide +kernel
theorem dX11_turned_46 : decode cX11_turned 46 = .ok (.iload 4, 2) := by decide +kernel
theorem dX11_turned_48 : decode cX11_turned 48 = .ok (.aload_n 0, 1) := by decide +kernel
theorem dX11_turned_49 : decode cX11_turned 49 = .ok (.iload_n 3, 1) := by decide +kernel
theorem dX11_turned_50 : decode cX11_turned 50 = .ok (.iload 4, 2) := by decide +kernel
theorem dX11_turned_52 : decode cX11_turned 52 = .ok (.sipush 1440, 3) := by decide +kernel
theorem dX11_turned_55 : decode cX11_turned 55 = .ok (.idiv, 1) := by decide +kernel
theorem dX11_turned_56 : decode cX11_turned 56 = .ok (.invokevirtual 139, 3) := by decide +kernel
theorem dX11_turned_59 : decode cX11_turned 59 = .ok (.iadd, 1) := by decide +kernel
theorem dX11_turned_60 : decode cX11_turned 60 = .ok (.ireturn, 1) := by decide +kernel
set_option maxRecDepth 20000 in
theorem ggX11_unlike_X11_isTown : GoodIn wsX11_unlike wsX11_isTown := goodIn_r _ [6, 7, 8, 9, 5, 10, 21, 22, 23, 24, 25, 26, 27, 28, 29, 30, 31, 32, 33, 34, 35, 36, 37, 38, 39, 40, 41, 42, 43, 44, 45, 46, 47, 48, 49, 50, 51, 52, 53, 54, 55, 56, 57, 58] (by decide +kernel) (by decide +kernel)
set_option maxRecDepth 20000 in
theorem gX11_unlike_X11_isTown : GoodIn wsX11_unlike (wsV RX11 102 RX11 yX11_isTown wsX11_isTown) := goodIn_app (goodIn_of _ (by decide +kernel)) ggX11_unlike_X11_isTown
set_option maxRecDepth 20000 in
theorem ggX11_unlike_X11_ahead : GoodIn wsX11_unlike wsX11_ahead := goodIn_r _ [14, 15, 16, 17, 18, 19, 20, 21, 22, 23, 24, 25, 26, 27, 28, 29, 30, 31, 32, 33, 34, 35, 36, 37, 38, 39, 40, 41, 42, 43, 44, 45, 46, 47, 48, 49, 50, 51, 52, 53, 54, 55, 56, 57, 58] (by decide +kernel) (by decide +kernel)
set_option maxRecDepth 20000 in
theorem gX11_unlike_X11_ahead : GoodIn wsX11_unlike (wsV RX11 139 RX11 yX11_ahead wsX11_ahead) := goodIn_app (goodIn_of _ (by decide +kernel)) ggX11_unlike_X11_ahead
theorem dX11_unlike_0 : decode cX11_unlike 0 = .ok (.aload_n 0, 1) := by decide +kernel
theorem dX11_unlike_1 : decode cX11_unlike 1 = .ok (.iconst 0, 1) := by decide +kernel
theorem dX11_unlike_2 : decode cX11_unlike 2 = .ok (.putfield 83, 3) := by decide +kernel
theorem dX11_unlike_5 : decode cX11_unlike 5 = .ok (.aload_n 0, 1) := by decide +kernel
theorem dX11_unlike_6 : decode cX11_unlike 6 = .ok (.iload_n 1, 1) := by decide +kernel
theorem dX11_unlike_7 : decode cX11_unlike 7 = .ok (.invokevirtual 102, 3) := by decide +kernel
theorem dX11_unlike_10 : decode cX11_unlike 10 = .ok (.ifCond .eq 11, 3) := by decide +kernel
theorem dX11_unlike_13 : decode cX11_unlike 13 = .ok (.aload_n 0, 1) := by decide +kernel
theorem dX11_unlike_14 : decode cX11_unlike 14 = .ok (.iload_n 2, 1) := by decide +kernel
theorem dX11_unlike_15 : decode cX11_unlike 15 = .ok (.invokevirtual 102, 3) := by decide +kernel
theorem dX11_unlike_18 : decode cX11_unlike 18 = .ok (.ifCond .ne 5, 3) := by decide +kernel
theorem dX11_unlike_21 : decode cX11_unlike 21 = .ok (.iconst (-1), 1) := by decide +kernel
theorem dX11_unlike_22 : decode cX11_unlike 22 = .ok (.ireturn, 1) := by decide +kernel
theorem dX11_unlike_23 : decode cX11_unlike 23 = .ok (.iconst 0, 1) := by decide +kernel
theorem dX11_unlike_24 : decode cX11_unlike 24 = .ok (.istore_n 3, 1) := by decide +kernel
theorem dX11_unlike_25 : decode cX11_unlike 25 = .ok (.iconst 0, 1) := by decide +kernel
theorem dX11_unlike_26 : decode cX11_unlike 26 = .ok (.istore 4, 2) := by decide +kernel
theorem dX11_unlike_28 : decode cX11_unlike 28 = .ok (.iload 4, 2) := by decide +kernel
theorem dX11_unlike_30 : decode cX11_unlike 30 = .ok (.sipush 400, 3) := by decide +kernel
theorem dX11_unlike_33 : decode cX11_unlike 33 = .ok (.if_icmp .ge 34, 3) := by decide +kernel
theorem dX11_unlike_36 : decode cX11_unlike 36 = .ok (.iload_n 3, 1) := by decide +kernel
theorem dX11_unlike_37 : decode cX11_unlike 37 = .ok (.aload_n 0, 1) := by decide +kernel
theorem dX11_unlike_38 : decode cX11_unlike 38 = .ok (.iload_n 1, 1) := by decide +kernel
theorem dX11_unlike_39 : decode cX11_unlike 39 = .ok (.iload 4, 2) := by decide +kernel
theorem dX11_unlike_41 : decode cX11_unlike 41 = .ok (.invokevirtual 139, 3) := by decide +kernel
theorem dX11_unlike_44 : decode cX11_unlike 44 = .ok (.aload_n 0, 1) := by decide +kernel
theorem dX11_unlike_45 : decode cX11_unlike 45 = .ok (.iload_n 2, 1) := by decide +kernel
theorem dX11_unlike_46 : decode cX11_unlike 46 = .ok (.iload 4, 2) := by decide +kernel
theorem dX11_unlike_48 : decode cX11_unlike 48 = .ok (.invokevirtual 139, 3) := by decide +kernel
theorem dX11_unlike_51 : decode cX11_unlike 51 = .ok (.if_icmp .ne 7, 3) := by decide +kernel
theorem dX11_unlike_54 : decode cX11_unlike 54 = .ok (.iconst 0, 1) := by decide +kernel
theorem dX11_unlike_55 : decode cX11_unlike 55 = .ok (.goto 4, 3) := by decide +kernel
theorem dX11_unlike_58 : decode cX11_unlike 58 = .ok (.iconst 1, 1) := by decide +kernel
theorem dX11_unlike_59 : decode cX11_unlike 59 = .ok (.iadd, 1) := by decide +kernel
theorem dX11_unlike_60 : decode cX11_unlike 60 = .ok (.istore_n 3, 1) := by decide +kernel
theorem dX11_unlike_61 : decode cX11_unlike 61 = .ok (.iinc 4 1, 3) := by decide +kernel
theorem dX11_unlike_64 : decode cX11_unlike 64 = .ok (.goto (-36), 3) := by decide +kernel
theorem dX11_unlike_67 : decode cX11_unlike 67 = .ok (.iload_n 3, 1) := by decide +kernel
theorem dX11_unlike_68 : decode cX11_unlike 68 = .ok (.ireturn, 1) := by decide +kernel
set_option maxRecDepth 20000 in
theorem ggX11_one_X11_isDay : GoodIn wsX11_one wsX11_isDay := goodIn_r _ [6, 7, 8, 9, 5, 10] (by decide +kernel) (by decide +kernel)
set_option maxRecDepth 20000 in
theorem gX11_one_X11_isDay : GoodIn wsX11_one (va_wsS RX11 106 yX11_isDay wsX11_isDay) := goodIn_app (goodIn_of _ (by decide +kernel)) ggX11_one_X11_isDay
set_option maxRecDepth 20000 in
theorem ggX11_one_X11_ahead : GoodIn wsX11_one wsX11_ahead := goodIn_r _ [14, 15, 16, 17, 18, 19, 20, 21, 22, 23, 24, 25, 26, 27, 28, 29, 30, 31, 32, 33, 34, 35, 36, 37, 38, 39, 40, 41, 42, 43, 44, 45, 46, 47, 48, 49, 50, 51, 52, 53, 54, 55, 56, 57, 58] (by decide +kernel) (by decide +kernel)
set_option maxRecDepth 20000 in
theorem gX11_one_X11_ahead : GoodIn wsX11_one (wsV RX11 139 RX11 yX11_ahead wsX11_ahead) := goodIn_app (goodIn_of _ (by decide +kernel)) ggX11_one_X11_ahead
theorem dX11_one_0 : decode cX11_one 0 = .ok (.aload_n 0, 1) := by decide +kernel
theorem dX11_one_1 : decode cX11_one 1 = .ok (.iconst 0, 1) := by decide +kernel
theorem dX11_one_2 : decode cX11_one 2 = .ok (.putfield 83, 3) := by decide +kernel
theorem dX11_one_5 : decode cX11_one 5 = .ok (.iload_n 1, 1) := by decide +kernel
theorem dX11_one_6 : decode cX11_one 6 = .ok (.invokestatic 106, 3) := by decide +kernel
theorem dX11_one_9 : decode cX11_one 9 = .ok (.ifCond .ne 5, 3) := by decide +kernel
theorem dX11_one_12 : decode cX11_one 12 = .ok (.iconst (-1), 1) := by decide +kernel
theorem dX11_one_13 : decode cX11_one 13 = .ok (.ireturn, 1) := by decide +kernel
theorem dX11_one_14 : decode cX11_one 14 = .ok (.iload_n 1, 1) := by decide +kernel
theorem dX11_one_15 : decode cX11_one 15 = .ok (.istore_n 2, 1) := by decide +kernel
theorem dX11_one_16 : decode cX11_one 16 = .ok (.iload_n 2, 1) := by decide +kernel
theorem dX11_one_17 : decode cX11_one 17 = .ok (.sipush 400, 3) := by decide +kernel
theorem dX11_one_20 : decode cX11_one 20 = .ok (.if_icmp .ge 61, 3) := by decide +kernel
theorem dX11_one_23 : decode cX11_one 23 = .ok (.iconst 1, 1) := by decide +kernel
theorem dX11_one_24 : decode cX11_one 24 = .ok (.istore_n 3, 1) := by decide +kernel
theorem dX11_one_25 : decode cX11_one 25 = .ok (.iconst 1, 1) := by decide +kernel
theorem dX11_one_26 : decode cX11_one 26 = .ok (.istore 4, 2) := by decide +kernel
theorem dX11_one_28 : decode cX11_one 28 = .ok (.iload 4, 2) := by decide +kernel
theorem dX11_one_30 : decode cX11_one 30 = .ok (.aload_n 0, 1) := by decide +kernel
theorem dX11_one_31 : decode cX11_one 31 = .ok (.getfield 87, 3) := by decide +kernel
theorem dX11_one_34 : decode cX11_one 34 = .ok (.if_icmp .ge 35, 3) := by decide +kernel
theorem dX11_one_37 : decode cX11_one 37 = .ok (.iload_n 3, 1) := by decide +kernel
theorem dX11_one_38 : decode cX11_one 38 = .ok (.ifCond .eq 23, 3) := by decide +kernel
theorem dX11_one_41 : decode cX11_one 41 = .ok (.aload_n 0, 1) := by decide +kernel
theorem dX11_one_42 : decode cX11_one 42 = .ok (.iload 4, 2) := by decide +kernel
theorem dX11_one_44 : decode cX11_one 44 = .ok (.iload_n 2, 1) := by decide +kernel
theorem dX11_one_45 : decode cX11_one 45 = .ok (.invokevirtual 139, 3) := by decide +kernel
theorem dX11_one_48 : decode cX11_one 48 = .ok (.aload_n 0, 1) := by decide +kernel
theorem dX11_one_49 : decode cX11_one 49 = .ok (.iconst 0, 1) := by decide +kernel
theorem dX11_one_50 : decode cX11_one 50 = .ok (.iload_n 2, 1) := by decide +kernel
theorem dX11_one_51 : decode cX11_one 51 = .ok (.invokevirtual 139, 3) := by decide +kernel
theorem dX11_one_54 : decode cX11_one 54 = .ok (.if_icmp .ne 7, 3) := by decide +kernel
theorem dX11_one_57 : decode cX11_one 57 = .ok (.iconst 1, 1) := by decide +kernel
theorem dX11_one_58 : decode cX11_one 58 = .ok (.goto 4, 3) := by decide +kernel
theorem dX11_one_61 : decode cX11_one 61 = .ok (.iconst 0, 1) := by decide +kernel
theorem dX11_one_62 : decode cX11_one 62 = .ok (.istore_n 3, 1) := by decide +kernel
theorem dX11_one_63 : decode cX11_one 63 = .ok (.iinc 4 1, 3) := by decide +kernel
theorem dX11_one_66 : decode cX11_one 66 = .ok (.goto (-38), 3) := by decide +kernel
theorem dX11_one_69 : decode cX11_one 69 = .ok (.iload_n 3, 1) := by decide +kernel
theorem dX11_one_70 : decode cX11_one 70 = .ok (.ifCond .eq 5, 3) := by decide +kernel
theorem dX11_one_73 : decode cX11_one 73 = .ok (.iload_n 2, 1) := by decide +kernel
theorem dX11_one_74 : decode cX11_one 74 = .ok (.ireturn, 1) := by decide +kernel
theorem dX11_one_75 : decode cX11_one 75 = .ok (.iinc 2 1, 3) := by decide +kernel
theorem dX11_one_78 : decode cX11_one 78 = .ok (.goto (-62), 3) := by decide +kernel
theorem dX11_one_81 : decode cX11_one 81 = .ok (.iconst (-1), 1) := by decide +kernel
theorem dX11_one_82 : decode cX11_one 82 = .ok (.ireturn, 1) := by decide +kernel
set_option maxRecDepth 20000 in
theorem ggX11_station_X11_isTown : GoodIn wsX11_station wsX11_isTown := goodIn_r _ [11, 12, 13, 14, 10, 15, 16, 17, 18, 19, 20, 21, 22, 23, 24, 25, 26, 27, 28, 29, 30, 31, 32, 33, 34, 35, 36, 37, 38, 39, 40, 41, 42, 43, 44, 45, 46, 47, 48, 49, 50, 51, 52, 53] (by decide +kernel) (by decide +kernel)
set_option maxRecDepth 20000 in
theorem gX11_station_X11_isTown : GoodIn wsX11_station (wsV RX11 102 RX11 yX11_isTown wsX11_isTown) := goodIn_app (goodIn_of _ (by decide +kernel)) ggX11_station_X11_isTown
set_option maxRecDepth 20000 in
theorem ggX11_station_X11_in : GoodIn wsX11_station wsX11_in := goodIn_r _ [15] (by decide +kernel) (by decide +kernel)
set_option maxRecDepth 20000 in
theorem gX11_station_X11_in : GoodIn wsX11_station (va_wsS RX11 90 yX11_in wsX11_in) := goodIn_app (goodIn_of _ (by decide +kernel)) ggX11_station_X11_in
theorem dX11_station_0 : decode cX11_station 0 = .ok (.aload_n 0, 1) := by decide +kernel
theorem dX11_station_1 : decode cX11_station 1 = .ok (.iconst 0, 1) := by decide +kernel
theorem dX11_station_2 : decode cX11_station 2 = .ok (.putfield 83, 3) := by decide +kernel
theorem dX11_station_5 : decode cX11_station 5 = .ok (.aload_n 0, 1) := by decide +kernel
theorem dX11_station_6 : decode cX11_station 6 = .ok (.iload_n 1, 1) := by decide +kernel
theorem dX11_station_7 : decode cX11_station 7 = .ok (.invokevirtual 102, 3) := by decide +kernel
theorem dX11_station_10 : decode cX11_station 10 = .ok (.ifCond .eq 38, 3) := by decide +kernel
theorem dX11_station_13 : decode cX11_station 13 = .ok (.aload_n 0, 1) := by decide +kernel
theorem dX11_station_14 : decode cX11_station 14 = .ok (.getfield 118, 3) := by decide +kernel
theorem dX11_station_17 : decode cX11_station 17 = .ok (.ifCond .le 15, 3) := by decide +kernel
theorem dX11_station_20 : decode cX11_station 20 = .ok (.iload_n 2, 1) := by decide +kernel
theorem dX11_station_21 : decode cX11_station 21 = .ok (.i2l, 1) := by decide +kernel
theorem dX11_station_22 : decode cX11_station 22 = .ok (.lconst 1, 1) := by decide +kernel
theorem dX11_station_23 : decode cX11_station 23 = .ok (.ldc2_w 153, 3) := by decide +kernel
theorem dX11_station_26 : decode cX11_station 26 = .ok (.invokestatic 90, 3) := by decide +kernel
theorem dX11_station_29 : decode cX11_station 29 = .ok (.ifCond .eq 19, 3) := by decide +kernel
theorem dX11_station_32 : decode cX11_station 32 = .ok (.aload_n 0, 1) := by decide +kernel
theorem dX11_station_33 : decode cX11_station 33 = .ok (.getfield 118, 3) := by decide +kernel
theorem dX11_station_36 : decode cX11_station 36 = .ok (.bipush 6, 2) := by decide +kernel
theorem dX11_station_38 : decode cX11_station 38 = .ok (.if_icmp .eq 10, 3) := by decide +kernel
theorem dX11_station_41 : decode cX11_station 41 = .ok (.aload_n 0, 1) := by decide +kernel
theorem dX11_station_42 : decode cX11_station 42 = .ok (.getfield 121, 3) := by decide +kernel
theorem dX11_station_45 : decode cX11_station 45 = .ok (.ifCond .le 5, 3) := by decide +kernel
theorem dX11_station_48 : decode cX11_station 48 = .ok (.iconst (-1), 1) := by decide +kernel
theorem dX11_station_49 : decode cX11_station 49 = .ok (.ireturn, 1) := by decide +kernel
theorem dX11_station_50 : decode cX11_station 50 = .ok (.aload_n 0, 1) := by decide +kernel
theorem dX11_station_51 : decode cX11_station 51 = .ok (.getfield 28, 3) := by decide +kernel
theorem dX11_station_54 : decode cX11_station 54 = .ok (.aload_n 0, 1) := by decide +kernel
theorem dX11_station_55 : decode cX11_station 55 = .ok (.getfield 118, 3) := by decide +kernel
theorem dX11_station_58 : decode cX11_station 58 = .ok (.iload_n 1, 1) := by decide +kernel
theorem dX11_station_59 : decode cX11_station 59 = .ok (.iastore, 1) := by decide +kernel
theorem dX11_station_60 : decode cX11_station 60 = .ok (.aload_n 0, 1) := by decide +kernel
theorem dX11_station_61 : decode cX11_station 61 = .ok (.getfield 31, 3) := by decide +kernel
theorem dX11_station_64 : decode cX11_station 64 = .ok (.aload_n 0, 1) := by decide +kernel
theorem dX11_station_65 : decode cX11_station 65 = .ok (.getfield 118, 3) := by decide +kernel
theorem dX11_station_68 : decode cX11_station 68 = .ok (.iload_n 2, 1) := by decide +kernel
theorem dX11_station_69 : decode cX11_station 69 = .ok (.iastore, 1) := by decide +kernel
theorem dX11_station_70 : decode cX11_station 70 = .ok (.aload_n 0, 1) := by decide +kernel
theorem dX11_station_71 : decode cX11_station 71 = .ok (.dup, 1) := by decide +kernel
theorem dX11_station_72 : decode cX11_station 72 = .ok (.getfield 118, 3) := by decide +kernel
theorem dX11_station_75 : decode cX11_station 75 = .ok (.iconst 1, 1) := by decide +kernel
theorem dX11_station_76 : decode cX11_station 76 = .ok (.iadd, 1) := by decide +kernel
theorem dX11_station_77 : decode cX11_station 77 = .ok (.putfield 118, 3) := by decide +kernel
theorem dX11_station_80 : decode cX11_station 80 = .ok (.aload_n 0, 1) := by decide +kernel
theorem dX11_station_81 : decode cX11_station 81 = .ok (.getfield 118, 3) := by decide +kernel
theorem dX11_station_84 : decode cX11_station 84 = .ok (.iconst 1, 1) := by decide +kernel
theorem dX11_station_85 : decode cX11_station 85 = .ok (.isub, 1) := by decide +kernel
theorem dX11_station_86 : decode cX11_station 86 = .ok (.ireturn, 1) := by decide +kernel
set_option maxRecDepth 20000 in
theorem ggX11_train_X11_isDay : GoodIn wsX11_train wsX11_isDay := goodIn_r _ [15, 16, 17, 18, 14, 19] (by decide +kernel) (by decide +kernel)
set_option maxRecDepth 20000 in
theorem gX11_train_X11_isDay : GoodIn wsX11_train (va_wsS RX11 106 yX11_isDay wsX11_isDay) := goodIn_app (goodIn_of _ (by decide +kernel)) ggX11_train_X11_isDay
set_option maxRecDepth 20000 in
theorem ggX11_train_X11_in : GoodIn wsX11_train wsX11_in := goodIn_r _ [19] (by decide +kernel) (by decide +kernel)
set_option maxRecDepth 20000 in
theorem gX11_train_X11_in : GoodIn wsX11_train (va_wsS RX11 90 yX11_in wsX11_in) := goodIn_app (goodIn_of _ (by decide +kernel)) ggX11_train_X11_in
set_option maxRecDepth 20000 in
theorem ggX11_train_X11_firstAt : GoodIn wsX11_train wsX11_firstAt := goodIn_r _ [23, 7, 24, 25, 26, 14, 27, 28, 29, 30, 31, 32, 33, 17, 18, 19, 34, 35, 36, 37, 38, 39, 40, 41, 42, 43, 44, 45, 46, 47, 48, 49, 50, 51, 52, 53, 54, 55, 56, 57, 58, 59, 60, 61, 62, 63, 64, 65, 66, 67, 68, 69, 70, 71] (by decide +kernel) (by decide +kernel)
set_option maxRecDepth 20000 in
theorem gX11_train_X11_firstAt : GoodIn wsX11_train (wsV RX11 149 RX11 yX11_firstAt wsX11_firstAt) := goodIn_app (goodIn_of _ (by decide +kernel)) ggX11_train_X11_firstAt
theorem dX11_train_0 : decode cX11_train 0 = .ok (.aload_n 0, 1) := by decide +kernel
theorem dX11_train_1 : decode cX11_train 1 = .ok (.iconst 0, 1) := by decide +kernel
theorem dX11_train_2 : decode cX11_train 2 = .ok (.putfield 83, 3) := by decide +kernel
theorem dX11_train_5 : decode cX11_train 5 = .ok (.iload_n 2, 1) := by decide +kernel
theorem dX11_train_6 : decode cX11_train 6 = .ok (.invokestatic 106, 3) := by decide +kernel
theorem dX11_train_9 : decode cX11_train 9 = .ok (.ifCond .eq 45, 3) := by decide +kernel
theorem dX11_train_12 : decode cX11_train 12 = .ok (.iload_n 3, 1) := by decide +kernel
theorem dX11_train_13 : decode cX11_train 13 = .ok (.i2l, 1) := by decide +kernel
theorem dX11_train_14 : decode cX11_train 14 = .ok (.lconst 0, 1) := by decide +kernel
theorem dX11_train_15 : decode cX11_train 15 = .ok (.ldc2_w 155, 3) := by decide +kernel
theorem dX11_train_18 : decode cX11_train 18 = .ok (.invokestatic 90, 3) := by decide +kernel
theorem dX11_train_21 : decode cX11_train 21 = .ok (.ifCond .eq 33, 3) := by decide +kernel
theorem dX11_train_24 : decode cX11_train 24 = .ok (.iload 4, 2) := by decide +kernel
theorem dX11_train_26 : decode cX11_train 26 = .ok (.i2l, 1) := by decide +kernel
theorem dX11_train_27 : decode cX11_train 27 = .ok (.lconst 0, 1) := by decide +kernel
theorem dX11_train_28 : decode cX11_train 28 = .ok (.ldc2_w 157, 3) := by decide +kernel
theorem dX11_train_31 : decode cX11_train 31 = .ok (.invokestatic 90, 3) := by decide +kernel
theorem dX11_train_34 : decode cX11_train 34 = .ok (.ifCond .eq 20, 3) := by decide +kernel
theorem dX11_train_37 : decode cX11_train 37 = .ok (.aload_n 0, 1) := by decide +kernel
theorem dX11_train_38 : decode cX11_train 38 = .ok (.getfield 118, 3) := by decide +kernel
theorem dX11_train_41 : decode cX11_train 41 = .ok (.iconst 2, 1) := by decide +kernel
theorem dX11_train_42 : decode cX11_train 42 = .ok (.if_icmp .lt 12, 3) := by decide +kernel
theorem dX11_train_45 : decode cX11_train 45 = .ok (.aload_n 0, 1) := by decide +kernel
theorem dX11_train_46 : decode cX11_train 46 = .ok (.getfield 121, 3) := by decide +kernel
theorem dX11_train_49 : decode cX11_train 49 = .ok (.bipush 6, 2) := by decide +kernel
theorem dX11_train_51 : decode cX11_train 51 = .ok (.if_icmp .ne 5, 3) := by decide +kernel
theorem dX11_train_54 : decode cX11_train 54 = .ok (.iconst (-1), 1) := by decide +kernel
theorem dX11_train_55 : decode cX11_train 55 = .ok (.ireturn, 1) := by decide +kernel
theorem dX11_train_56 : decode cX11_train 56 = .ok (.aload_n 0, 1) := by decide +kernel
theorem dX11_train_57 : decode cX11_train 57 = .ok (.aload_n 0, 1) := by decide +kernel
theorem dX11_train_58 : decode cX11_train 58 = .ok (.getfield 28, 3) := by decide +kernel
theorem dX11_train_61 : decode cX11_train 61 = .ok (.iload_n 1, 1) := by decide +kernel
theorem dX11_train_62 : decode cX11_train 62 = .ok (.ifCond .eq 7, 3) := by decide +kernel
theorem dX11_train_65 : decode cX11_train 65 = .ok (.iconst 0, 1) := by decide +kernel
theorem dX11_train_66 : decode cX11_train 66 = .ok (.goto 9, 3) := by decide +kernel
theorem dX11_train_69 : decode cX11_train 69 = .ok (.aload_n 0, 1) := by decide +kernel
theorem dX11_train_70 : decode cX11_train 70 = .ok (.getfield 118, 3) := by decide +kernel
theorem dX11_train_73 : decode cX11_train 73 = .ok (.iconst 1, 1) := by decide +kernel
theorem dX11_train_74 : decode cX11_train 74 = .ok (.isub, 1) := by decide +kernel
theorem dX11_train_75 : decode cX11_train 75 = .ok (.iaload, 1) := by decide +kernel
theorem dX11_train_76 : decode cX11_train 76 = .ok (.iload_n 2, 1) := by decide +kernel
theorem dX11_train_77 : decode cX11_train 77 = .ok (.i2l, 1) := by decide +kernel
theorem dX11_train_78 : decode cX11_train 78 = .ok (.ldc2_w 147, 3) := by decide +kernel
theorem dX11_train_81 : decode cX11_train 81 = .ok (.lmul, 1) := by decide +kernel
theorem dX11_train_82 : decode cX11_train 82 = .ok (.iload_n 3, 1) := by decide +kernel
theorem dX11_train_83 : decode cX11_train 83 = .ok (.i2l, 1) := by decide +kernel
theorem dX11_train_84 : decode cX11_train 84 = .ok (.ladd, 1) := by decide +kernel
theorem dX11_train_85 : decode cX11_train 85 = .ok (.invokevirtual 149, 3) := by decide +kernel
theorem dX11_train_88 : decode cX11_train 88 = .ok (.istore 5, 2) := by decide +kernel
theorem dX11_train_90 : decode cX11_train 90 = .ok (.iload 5, 2) := by decide +kernel
theorem dX11_train_92 : decode cX11_train 92 = .ok (.ifCond .ge 5, 3) := by decide +kernel
theorem dX11_train_95 : decode cX11_train 95 = .ok (.iconst (-1), 1) := by decide +kernel
theorem dX11_train_96 : decode cX11_train 96 = .ok (.ireturn, 1) := by decide +kernel
theorem dX11_train_97 : decode cX11_train 97 = .ok (.aload_n 0, 1) := by decide +kernel
theorem dX11_train_98 : decode cX11_train 98 = .ok (.getfield 34, 3) := by decide +kernel
theorem dX11_train_101 : decode cX11_train 101 = .ok (.aload_n 0, 1) := by decide +kernel
theorem dX11_train_102 : decode cX11_train 102 = .ok (.getfield 121, 3) := by decide +kernel
theorem dX11_train_105 : decode cX11_train 105 = .ok (.iload_n 1, 1) := by decide +kernel
theorem dX11_train_106 : decode cX11_train 106 = .ok (.bastore, 1) := by decide +kernel
theorem dX11_train_107 : decode cX11_train 107 = .ok (.aload_n 0, 1) := by decide +kernel
theorem dX11_train_108 : decode cX11_train 108 = .ok (.getfield 38, 3) := by decide +kernel
theorem dX11_train_111 : decode cX11_train 111 = .ok (.aload_n 0, 1) := by decide +kernel
theorem dX11_train_112 : decode cX11_train 112 = .ok (.getfield 121, 3) := by decide +kernel
theorem dX11_train_115 : decode cX11_train 115 = .ok (.iload 5, 2) := by decide +kernel
theorem dX11_train_117 : decode cX11_train 117 = .ok (.iastore, 1) := by decide +kernel
theorem dX11_train_118 : decode cX11_train 118 = .ok (.aload_n 0, 1) := by decide +kernel
theorem dX11_train_119 : decode cX11_train 119 = .ok (.getfield 41, 3) := by decide +kernel
theorem dX11_train_122 : decode cX11_train 122 = .ok (.aload_n 0, 1) := by decide +kernel
theorem dX11_train_123 : decode cX11_train 123 = .ok (.getfield 121, 3) := by decide +kernel
theorem dX11_train_126 : decode cX11_train 126 = .ok (.iload 4, 2) := by decide +kernel
theorem dX11_train_128 : decode cX11_train 128 = .ok (.iastore, 1) := by decide +kernel
theorem dX11_train_129 : decode cX11_train 129 = .ok (.aload_n 0, 1) := by decide +kernel
theorem dX11_train_130 : decode cX11_train 130 = .ok (.getfield 44, 3) := by decide +kernel
theorem dX11_train_133 : decode cX11_train 133 = .ok (.aload_n 0, 1) := by decide +kernel
theorem dX11_train_134 : decode cX11_train 134 = .ok (.getfield 121, 3) := by decide +kernel
theorem dX11_train_137 : decode cX11_train 137 = .ok (.iconst 0, 1) := by decide +kernel
theorem dX11_train_138 : decode cX11_train 138 = .ok (.iastore, 1) := by decide +kernel
theorem dX11_train_139 : decode cX11_train 139 = .ok (.aload_n 0, 1) := by decide +kernel
theorem dX11_train_140 : decode cX11_train 140 = .ok (.dup, 1) := by decide +kernel
theorem dX11_train_141 : decode cX11_train 141 = .ok (.getfield 121, 3) := by decide +kernel
theorem dX11_train_144 : decode cX11_train 144 = .ok (.iconst 1, 1) := by decide +kernel
theorem dX11_train_145 : decode cX11_train 145 = .ok (.iadd, 1) := by decide +kernel
theorem dX11_train_146 : decode cX11_train 146 = .ok (.putfield 121, 3) := by decide +kernel
theorem dX11_train_149 : decode cX11_train 149 = .ok (.aload_n 0, 1) := by decide +kernel
theorem dX11_train_150 : decode cX11_train 150 = .ok (.getfield 121, 3) := by decide +kernel
theorem dX11_train_153 : decode cX11_train 153 = .ok (.iconst 1, 1) := by decide +kernel
theorem dX11_train_154 : decode cX11_train 154 = .ok (.isub, 1) := by decide +kernel
theorem dX11_train_155 : decode cX11_train 155 = .ok (.ireturn, 1) := by decide +kernel
theorem dX11_leavesAt_0 : decode cX11_leavesAt 0 = .ok (.aload_n 0, 1) := by decide +kernel
theorem dX11_leavesAt_1 : decode cX11_leavesAt 1 = .ok (.getfield 38, 3) := by decide +kernel
theorem dX11_leavesAt_4 : decode cX11_leavesAt 4 = .ok (.iload_n 1, 1) := by decide +kernel
theorem dX11_leavesAt_5 : decode cX11_leavesAt 5 = .ok (.iaload, 1) := by decide +kernel
theorem dX11_leavesAt_6 : decode cX11_leavesAt 6 = .ok (.iload_n 3, 1) := by decide +kernel
theorem dX11_leavesAt_7 : decode cX11_leavesAt 7 = .ok (.iadd, 1) := by decide +kernel
theorem dX11_leavesAt_8 : decode cX11_leavesAt 8 = .ok (.istore 4, 2) := by decide +kernel
theorem dX11_leavesAt_10 : decode cX11_leavesAt 10 = .ok (.iconst 1, 1) := by decide +kernel
theorem dX11_leavesAt_11 : decode cX11_leavesAt 11 = .ok (.istore 5, 2) := by decide +kernel
theorem dX11_leavesAt_13 : decode cX11_leavesAt 13 = .ok (.iload 5, 2) := by decide +kernel
theorem dX11_leavesAt_15 : decode cX11_leavesAt 15 = .ok (.iload_n 2, 1) := by decide +kernel
theorem dX11_leavesAt_16 : decode cX11_leavesAt 16 = .ok (.if_icmp .gt 62, 3) := by decide +kernel
theorem dX11_leavesAt_19 : decode cX11_leavesAt 19 = .ok (.iload 4, 2) := by decide +kernel
theorem dX11_leavesAt_21 : decode cX11_leavesAt 21 = .ok (.aload_n 0, 1) := by decide +kernel
theorem dX11_leavesAt_22 : decode cX11_leavesAt 22 = .ok (.getfield 31, 3) := by decide +kernel
theorem dX11_leavesAt_25 : decode cX11_leavesAt 25 = .ok (.aload_n 0, 1) := by decide +kernel
theorem dX11_leavesAt_26 : decode cX11_leavesAt 26 = .ok (.getfield 34, 3) := by decide +kernel
theorem dX11_leavesAt_29 : decode cX11_leavesAt 29 = .ok (.iload_n 1, 1) := by decide +kernel
theorem dX11_leavesAt_30 : decode cX11_leavesAt 30 = .ok (.baload, 1) := by decide +kernel
theorem dX11_leavesAt_31 : decode cX11_leavesAt 31 = .ok (.ifCond .eq 8, 3) := by decide +kernel
theorem dX11_leavesAt_34 : decode cX11_leavesAt 34 = .ok (.iload 5, 2) := by decide +kernel
theorem dX11_leavesAt_36 : decode cX11_leavesAt 36 = .ok (.goto 10, 3) := by decide +kernel
theorem dX11_leavesAt_39 : decode cX11_leavesAt 39 = .ok (.aload_n 0, 1) := by decide +kernel
theorem dX11_leavesAt_40 : decode cX11_leavesAt 40 = .ok (.getfield 118, 3) := by decide +kernel
theorem dX11_leavesAt_43 : decode cX11_leavesAt 43 = .ok (.iload 5, 2) := by decide +kernel
theorem dX11_leavesAt_45 : decode cX11_leavesAt 45 = .ok (.isub, 1) := by decide +kernel
theorem dX11_leavesAt_46 : decode cX11_leavesAt 46 = .ok (.iaload, 1) := by decide +kernel
theorem dX11_leavesAt_47 : decode cX11_leavesAt 47 = .ok (.iload 5, 2) := by decide +kernel
theorem dX11_leavesAt_49 : decode cX11_leavesAt 49 = .ok (.aload_n 0, 1) := by decide +kernel
theorem dX11_leavesAt_50 : decode cX11_leavesAt 50 = .ok (.getfield 118, 3) := by decide +kernel
theorem dX11_leavesAt_53 : decode cX11_leavesAt 53 = .ok (.iconst 1, 1) := by decide +kernel
theorem dX11_leavesAt_54 : decode cX11_leavesAt 54 = .ok (.isub, 1) := by decide +kernel
theorem dX11_leavesAt_55 : decode cX11_leavesAt 55 = .ok (.if_icmp .ge 12, 3) := by decide +kernel
theorem dX11_leavesAt_58 : decode cX11_leavesAt 58 = .ok (.aload_n 0, 1) := by decide +kernel
theorem dX11_leavesAt_59 : decode cX11_leavesAt 59 = .ok (.getfield 41, 3) := by decide +kernel
theorem dX11_leavesAt_62 : decode cX11_leavesAt 62 = .ok (.iload_n 1, 1) := by decide +kernel
theorem dX11_leavesAt_63 : decode cX11_leavesAt 63 = .ok (.iaload, 1) := by decide +kernel
theorem dX11_leavesAt_64 : decode cX11_leavesAt 64 = .ok (.goto 4, 3) := by decide +kernel
theorem dX11_leavesAt_67 : decode cX11_leavesAt 67 = .ok (.iconst 0, 1) := by decide +kernel
theorem dX11_leavesAt_68 : decode cX11_leavesAt 68 = .ok (.iadd, 1) := by decide +kernel
theorem dX11_leavesAt_69 : decode cX11_leavesAt 69 = .ok (.iadd, 1) := by decide +kernel
theorem dX11_leavesAt_70 : decode cX11_leavesAt 70 = .ok (.istore 4, 2) := by decide +kernel
theorem dX11_leavesAt_72 : decode cX11_leavesAt 72 = .ok (.iinc 5 1, 3) := by decide +kernel
theorem dX11_leavesAt_75 : decode cX11_leavesAt 75 = .ok (.goto (-62), 3) := by decide +kernel
theorem dX11_leavesAt_78 : decode cX11_leavesAt 78 = .ok (.iload 4, 2) := by decide +kernel
theorem dX11_leavesAt_80 : decode cX11_leavesAt 80 = .ok (.ireturn, 1) := by decide +kernel
set_option maxRecDepth 20000 in
theorem ggX11_begins_X11_leavesAt : GoodIn wsX11_begins wsX11_leavesAt := goodIn_r _ [7, 8, 9, 1, 2, 10, 11, 12, 13, 14, 15, 16, 17, 18, 19, 20, 21, 22, 23, 24, 25, 26, 27, 28, 29, 30, 31, 32, 33, 34, 35, 36, 37, 38, 39, 40, 41, 42, 43, 44, 45, 46, 47, 48] (by decide +kernel) (by decide +kernel)
set_option maxRecDepth 20000 in
theorem gX11_begins_X11_leavesAt : GoodIn wsX11_begins (wsV RX11 159 RX11 yX11_leavesAt wsX11_leavesAt) := goodIn_app (goodIn_of _ (by decide +kernel)) ggX11_begins_X11_leavesAt
theorem dX11_begins_0 : decode cX11_begins 0 = .ok (.aload_n 0, 1) := by decide +kernel
theorem dX11_begins_1 : decode cX11_begins 1 = .ok (.iload_n 1, 1) := by decide +kernel
theorem dX11_begins_2 : decode cX11_begins 2 = .ok (.aload_n 0, 1) := by decide +kernel
theorem dX11_begins_3 : decode cX11_begins 3 = .ok (.getfield 34, 3) := by decide +kernel
theorem dX11_begins_6 : decode cX11_begins 6 = .ok (.iload_n 1, 1) := by decide +kernel
theorem dX11_begins_7 : decode cX11_begins 7 = .ok (.baload, 1) := by decide +kernel
theorem dX11_begins_8 : decode cX11_begins 8 = .ok (.ifCond .eq 7, 3) := by decide +kernel
theorem dX11_begins_11 : decode cX11_begins 11 = .ok (.iload_n 2, 1) := by decide +kernel
theorem dX11_begins_12 : decode cX11_begins 12 = .ok (.goto 11, 3) := by decide +kernel
theorem dX11_begins_15 : decode cX11_begins 15 = .ok (.aload_n 0, 1) := by decide +kernel
theorem dX11_begins_16 : decode cX11_begins 16 = .ok (.getfield 118, 3) := by decide +kernel
theorem dX11_begins_19 : decode cX11_begins 19 = .ok (.iconst 2, 1) := by decide +kernel
theorem dX11_begins_20 : decode cX11_begins 20 = .ok (.isub, 1) := by decide +kernel
theorem dX11_begins_21 : decode cX11_begins 21 = .ok (.iload_n 2, 1) := by decide +kernel
theorem dX11_begins_22 : decode cX11_begins 22 = .ok (.isub, 1) := by decide +kernel
theorem dX11_begins_23 : decode cX11_begins 23 = .ok (.iload_n 3, 1) := by decide +kernel
theorem dX11_begins_24 : decode cX11_begins 24 = .ok (.invokevirtual 159, 3) := by decide +kernel
theorem dX11_begins_27 : decode cX11_begins 27 = .ok (.ireturn, 1) := by decide +kernel
set_option maxRecDepth 20000 in
theorem ggX11_isTrain_X11_in : GoodIn wsX11_isTrain wsX11_in := goodIn_r _ [5] (by decide +kernel) (by decide +kernel)
set_option maxRecDepth 20000 in
theorem gX11_isTrain_X11_in : GoodIn wsX11_isTrain (va_wsS RX11 90 yX11_in wsX11_in) := goodIn_app (goodIn_of _ (by decide +kernel)) ggX11_isTrain_X11_in
theorem dX11_isTrain_0 : decode cX11_isTrain 0 = .ok (.iload_n 1, 1) := by decide +kernel
theorem dX11_isTrain_1 : decode cX11_isTrain 1 = .ok (.i2l, 1) := by decide +kernel
theorem dX11_isTrain_2 : decode cX11_isTrain 2 = .ok (.lconst 0, 1) := by decide +kernel
theorem dX11_isTrain_3 : decode cX11_isTrain 3 = .ok (.aload_n 0, 1) := by decide +kernel
theorem dX11_isTrain_4 : decode cX11_isTrain 4 = .ok (.getfield 121, 3) := by decide +kernel
theorem dX11_isTrain_7 : decode cX11_isTrain 7 = .ok (.iconst 1, 1) := by decide +kernel
theorem dX11_isTrain_8 : decode cX11_isTrain 8 = .ok (.isub, 1) := by decide +kernel
theorem dX11_isTrain_9 : decode cX11_isTrain 9 = .ok (.i2l, 1) := by decide +kernel
theorem dX11_isTrain_10 : decode cX11_isTrain 10 = .ok (.invokestatic 90, 3) := by decide +kernel
theorem dX11_isTrain_13 : decode cX11_isTrain 13 = .ok (.ireturn, 1) := by decide +kernel
set_option maxRecDepth 20000 in
theorem ggX11_leaves_X11_isTrain : GoodIn wsX11_leaves wsX11_isTrain := goodIn_r _ [9, 10, 11, 12, 8, 13, 21, 22, 23, 24, 25, 26, 27, 28, 29, 30, 31, 32, 33, 34, 35, 36, 37, 38, 39, 40, 41, 42, 43, 44, 45, 46, 47, 48, 49, 50, 51, 52, 53, 54, 55, 56, 57, 58] (by decide +kernel) (by decide +kernel)
set_option maxRecDepth 20000 in
theorem gX11_leaves_X11_isTrain : GoodIn wsX11_leaves (wsV RX11 163 RX11 yX11_isTrain wsX11_isTrain) := goodIn_app (goodIn_of _ (by decide +kernel)) ggX11_leaves_X11_isTrain
set_option maxRecDepth 20000 in
theorem ggX11_leaves_X11_in : GoodIn wsX11_leaves wsX11_in := goodIn_r _ [13] (by decide +kernel) (by decide +kernel)
set_option maxRecDepth 20000 in
theorem gX11_leaves_X11_in : GoodIn wsX11_leaves (va_wsS RX11 90 yX11_in wsX11_in) := goodIn_app (goodIn_of _ (by decide +kernel)) ggX11_leaves_X11_in
set_option maxRecDepth 20000 in
theorem ggX11_leaves_X11_leavesAt : GoodIn wsX11_leaves wsX11_leavesAt := goodIn_r _ [17, 18, 19, 3, 2, 20, 21, 22, 23, 24, 25, 26, 27, 28, 29, 30, 31, 32, 33, 34, 35, 36, 37, 38, 39, 40, 41, 42, 43, 44, 45, 46, 47, 48, 49, 50, 51, 52, 53, 54, 55, 56, 57, 58] (by decide +kernel) (by decide +kernel)
set_option maxRecDepth 20000 in
theorem gX11_leaves_X11_leavesAt : GoodIn wsX11_leaves (wsV RX11 159 RX11 yX11_leavesAt wsX11_leavesAt) := goodIn_app (goodIn_of _ (by decide +kernel)) ggX11_leaves_X11_leavesAt
theorem dX11_leaves_0 : decode cX11_leaves 0 = .ok (.aload_n 0, 1) := by decide +kernel
theorem dX11_leaves_1 : decode cX11_leaves 1 = .ok (.iconst 0, 1) := by decide +kernel
theorem dX11_leaves_2 : decode cX11_leaves 2 = .ok (.putfield 83, 3) := by decide +kernel
theorem dX11_leaves_5 : decode cX11_leaves 5 = .ok (.aload_n 0, 1) := by decide +kernel
theorem dX11_leaves_6 : decode cX11_leaves 6 = .ok (.iload_n 1, 1) := by decide +kernel
theorem dX11_leaves_7 : decode cX11_leaves 7 = .ok (.invokevirtual 163, 3) := by decide +kernel
theorem dX11_leaves_10 : decode cX11_leaves 10 = .ok (.ifCond .eq 19, 3) := by decide +kernel
theorem dX11_leaves_13 : decode cX11_leaves 13 = .ok (.iload_n 2, 1) := by decide +kernel
theorem dX11_leaves_14 : decode cX11_leaves 14 = .ok (.i2l, 1) := by decide +kernel
theorem dX11_leaves_15 : decode cX11_leaves 15 = .ok (.lconst 0, 1) := by decide +kernel
theorem dX11_leaves_16 : decode cX11_leaves 16 = .ok (.aload_n 0, 1) := by decide +kernel
theorem dX11_leaves_17 : decode cX11_leaves 17 = .ok (.getfield 118, 3) := by decide +kernel
theorem dX11_leaves_20 : decode cX11_leaves 20 = .ok (.iconst 1, 1) := by decide +kernel
theorem dX11_leaves_21 : decode cX11_leaves 21 = .ok (.isub, 1) := by decide +kernel
theorem dX11_leaves_22 : decode cX11_leaves 22 = .ok (.i2l, 1) := by decide +kernel
theorem dX11_leaves_23 : decode cX11_leaves 23 = .ok (.invokestatic 90, 3) := by decide +kernel
theorem dX11_leaves_26 : decode cX11_leaves 26 = .ok (.ifCond .ne 5, 3) := by decide +kernel
theorem dX11_leaves_29 : decode cX11_leaves 29 = .ok (.iconst (-1), 1) := by decide +kernel
theorem dX11_leaves_30 : decode cX11_leaves 30 = .ok (.ireturn, 1) := by decide +kernel
theorem dX11_leaves_31 : decode cX11_leaves 31 = .ok (.aload_n 0, 1) := by decide +kernel
theorem dX11_leaves_32 : decode cX11_leaves 32 = .ok (.iload_n 1, 1) := by decide +kernel
theorem dX11_leaves_33 : decode cX11_leaves 33 = .ok (.aload_n 0, 1) := by decide +kernel
theorem dX11_leaves_34 : decode cX11_leaves 34 = .ok (.getfield 34, 3) := by decide +kernel
theorem dX11_leaves_37 : decode cX11_leaves 37 = .ok (.iload_n 1, 1) := by decide +kernel
theorem dX11_leaves_38 : decode cX11_leaves 38 = .ok (.baload, 1) := by decide +kernel
theorem dX11_leaves_39 : decode cX11_leaves 39 = .ok (.ifCond .eq 7, 3) := by decide +kernel
theorem dX11_leaves_42 : decode cX11_leaves 42 = .ok (.iload_n 2, 1) := by decide +kernel
theorem dX11_leaves_43 : decode cX11_leaves 43 = .ok (.goto 11, 3) := by decide +kernel
theorem dX11_leaves_46 : decode cX11_leaves 46 = .ok (.aload_n 0, 1) := by decide +kernel
theorem dX11_leaves_47 : decode cX11_leaves 47 = .ok (.getfield 118, 3) := by decide +kernel
theorem dX11_leaves_50 : decode cX11_leaves 50 = .ok (.iconst 1, 1) := by decide +kernel
theorem dX11_leaves_51 : decode cX11_leaves 51 = .ok (.isub, 1) := by decide +kernel
theorem dX11_leaves_52 : decode cX11_leaves 52 = .ok (.iload_n 2, 1) := by decide +kernel
theorem dX11_leaves_53 : decode cX11_leaves 53 = .ok (.isub, 1) := by decide +kernel
theorem dX11_leaves_54 : decode cX11_leaves 54 = .ok (.aload_n 0, 1) := by decide +kernel
theorem dX11_leaves_55 : decode cX11_leaves 55 = .ok (.getfield 44, 3) := by decide +kernel
theorem dX11_leaves_58 : decode cX11_leaves 58 = .ok (.iload_n 1, 1) := by decide +kernel
theorem dX11_leaves_59 : decode cX11_leaves 59 = .ok (.iaload, 1) := by decide +kernel
theorem dX11_leaves_60 : decode cX11_leaves 60 = .ok (.invokevirtual 159, 3) := by decide +kernel
theorem dX11_leaves_63 : decode cX11_leaves 63 = .ok (.ireturn, 1) := by decide +kernel
set_option maxRecDepth 20000 in
theorem ggX11_delay_X11_isTrain : GoodIn wsX11_delay wsX11_isTrain := goodIn_r _ [8, 9, 10, 11, 7, 12, 13, 14, 15, 16, 17, 18, 19, 20, 21, 22, 23, 24, 25, 26, 27, 28, 29, 30, 31, 32, 33, 34, 35, 36, 37, 38, 39, 40, 41, 42, 43, 44, 45, 46, 47, 48, 49, 50] (by decide +kernel) (by decide +kernel)
set_option maxRecDepth 20000 in
theorem gX11_delay_X11_isTrain : GoodIn wsX11_delay (wsV RX11 163 RX11 yX11_isTrain wsX11_isTrain) := goodIn_app (goodIn_of _ (by decide +kernel)) ggX11_delay_X11_isTrain
set_option maxRecDepth 20000 in
theorem ggX11_delay_X11_in : GoodIn wsX11_delay wsX11_in := goodIn_r _ [12] (by decide +kernel) (by decide +kernel)
set_option maxRecDepth 20000 in
theorem gX11_delay_X11_in : GoodIn wsX11_delay (va_wsS RX11 90 yX11_in wsX11_in) := goodIn_app (goodIn_of _ (by decide +kernel)) ggX11_delay_X11_in
theorem dX11_delay_0 : decode cX11_delay 0 = .ok (.aload_n 0, 1) := by decide +kernel
theorem dX11_delay_1 : decode cX11_delay 1 = .ok (.iconst 0, 1) := by decide +kernel
theorem dX11_delay_2 : decode cX11_delay 2 = .ok (.putfield 83, 3) := by decide +kernel
theorem dX11_delay_5 : decode cX11_delay 5 = .ok (.aload_n 0, 1) := by decide +kernel
theorem dX11_delay_6 : decode cX11_delay 6 = .ok (.iload_n 1, 1) := by decide +kernel
theorem dX11_delay_7 : decode cX11_delay 7 = .ok (.invokevirtual 163, 3) := by decide +kernel
theorem dX11_delay_10 : decode cX11_delay 10 = .ok (.ifCond .eq 15, 3) := by decide +kernel
theorem dX11_delay_13 : decode cX11_delay 13 = .ok (.iload_n 2, 1) := by decide +kernel
theorem dX11_delay_14 : decode cX11_delay 14 = .ok (.i2l, 1) := by decide +kernel
theorem dX11_delay_15 : decode cX11_delay 15 = .ok (.lconst 0, 1) := by decide +kernel
theorem dX11_delay_16 : decode cX11_delay 16 = .ok (.ldc2_w 166, 3) := by decide +kernel
theorem dX11_delay_19 : decode cX11_delay 19 = .ok (.invokestatic 90, 3) := by decide +kernel
theorem dX11_delay_22 : decode cX11_delay 22 = .ok (.ifCond .ne 5, 3) := by decide +kernel
theorem dX11_delay_25 : decode cX11_delay 25 = .ok (.iconst 0, 1) := by decide +kernel
theorem dX11_delay_26 : decode cX11_delay 26 = .ok (.ireturn, 1) := by decide +kernel
theorem dX11_delay_27 : decode cX11_delay 27 = .ok (.aload_n 0, 1) := by decide +kernel
theorem dX11_delay_28 : decode cX11_delay 28 = .ok (.getfield 44, 3) := by decide +kernel
theorem dX11_delay_31 : decode cX11_delay 31 = .ok (.iload_n 1, 1) := by decide +kernel
theorem dX11_delay_32 : decode cX11_delay 32 = .ok (.iload_n 2, 1) := by decide +kernel
theorem dX11_delay_33 : decode cX11_delay 33 = .ok (.iastore, 1) := by decide +kernel
theorem dX11_delay_34 : decode cX11_delay 34 = .ok (.iconst 1, 1) := by decide +kernel
theorem dX11_delay_35 : decode cX11_delay 35 = .ok (.ireturn, 1) := by decide +kernel
set_option maxRecDepth 20000 in
theorem ggX11_meeting_X11_begins : GoodIn wsX11_meeting wsX11_begins := goodIn_r _ [14, 15, 1, 16, 17, 18, 13, 19, 20, 9, 21, 22, 23, 24, 25, 26, 27, 28, 29, 30, 31, 32, 33, 34, 35, 36, 37, 38, 39, 40, 41, 42, 43, 44, 45, 46, 47, 48, 49, 50, 51, 52, 53, 54, 55, 56, 57, 58, 59] (by decide +kernel) (by decide +kernel)
set_option maxRecDepth 20000 in
theorem gX11_meeting_X11_begins : GoodIn wsX11_meeting (wsV RX11 168 RX11 yX11_begins wsX11_begins) := goodIn_app (goodIn_of _ (by decide +kernel)) ggX11_meeting_X11_begins
theorem dX11_meeting_0 : decode cX11_meeting 0 = .ok (.iconst 0, 1) := by decide +kernel
theorem dX11_meeting_1 : decode cX11_meeting 1 = .ok (.istore 5, 2) := by decide +kernel
theorem dX11_meeting_3 : decode cX11_meeting 3 = .ok (.iload 5, 2) := by decide +kernel
theorem dX11_meeting_5 : decode cX11_meeting 5 = .ok (.iconst 1, 1) := by decide +kernel
theorem dX11_meeting_6 : decode cX11_meeting 6 = .ok (.iadd, 1) := by decide +kernel
theorem dX11_meeting_7 : decode cX11_meeting 7 = .ok (.aload_n 0, 1) := by decide +kernel
theorem dX11_meeting_8 : decode cX11_meeting 8 = .ok (.getfield 118, 3) := by decide +kernel
theorem dX11_meeting_11 : decode cX11_meeting 11 = .ok (.if_icmp .ge 60, 3) := by decide +kernel
theorem dX11_meeting_14 : decode cX11_meeting 14 = .ok (.aload_n 0, 1) := by decide +kernel
theorem dX11_meeting_15 : decode cX11_meeting 15 = .ok (.iload_n 1, 1) := by decide +kernel
theorem dX11_meeting_16 : decode cX11_meeting 16 = .ok (.iload 5, 2) := by decide +kernel
theorem dX11_meeting_18 : decode cX11_meeting 18 = .ok (.iload_n 2, 1) := by decide +kernel
theorem dX11_meeting_19 : decode cX11_meeting 19 = .ok (.invokevirtual 168, 3) := by decide +kernel
theorem dX11_meeting_22 : decode cX11_meeting 22 = .ok (.istore 6, 2) := by decide +kernel
theorem dX11_meeting_24 : decode cX11_meeting 24 = .ok (.aload_n 0, 1) := by decide +kernel
theorem dX11_meeting_25 : decode cX11_meeting 25 = .ok (.iload_n 3, 1) := by decide +kernel
theorem dX11_meeting_26 : decode cX11_meeting 26 = .ok (.iload 5, 2) := by decide +kernel
theorem dX11_meeting_28 : decode cX11_meeting 28 = .ok (.iload 4, 2) := by decide +kernel
theorem dX11_meeting_30 : decode cX11_meeting 30 = .ok (.invokevirtual 168, 3) := by decide +kernel
theorem dX11_meeting_33 : decode cX11_meeting 33 = .ok (.istore 7, 2) := by decide +kernel
theorem dX11_meeting_35 : decode cX11_meeting 35 = .ok (.iload 6, 2) := by decide +kernel
theorem dX11_meeting_37 : decode cX11_meeting 37 = .ok (.iload 7, 2) := by decide +kernel
theorem dX11_meeting_39 : decode cX11_meeting 39 = .ok (.invokestatic 171, 3) := by decide +kernel
theorem dX11_meeting_42 : decode cX11_meeting 42 = .ok (.iload 6, 2) := by decide +kernel
theorem dX11_meeting_44 : decode cX11_meeting 44 = .ok (.iload 7, 2) := by decide +kernel
theorem dX11_meeting_46 : decode cX11_meeting 46 = .ok (.invokestatic 176, 3) := by decide +kernel
theorem dX11_meeting_49 : decode cX11_meeting 49 = .ok (.aload_n 0, 1) := by decide +kernel
theorem dX11_meeting_50 : decode cX11_meeting 50 = .ok (.getfield 31, 3) := by decide +kernel
theorem dX11_meeting_53 : decode cX11_meeting 53 = .ok (.iload 5, 2) := by decide +kernel
theorem dX11_meeting_55 : decode cX11_meeting 55 = .ok (.iconst 1, 1) := by decide +kernel
theorem dX11_meeting_56 : decode cX11_meeting 56 = .ok (.iadd, 1) := by decide +kernel
theorem dX11_meeting_57 : decode cX11_meeting 57 = .ok (.iaload, 1) := by decide +kernel
theorem dX11_meeting_58 : decode cX11_meeting 58 = .ok (.iadd, 1) := by decide +kernel
theorem dX11_meeting_59 : decode cX11_meeting 59 = .ok (.if_icmp .ge 6, 3) := by decide +kernel
theorem dX11_meeting_62 : decode cX11_meeting 62 = .ok (.iload 5, 2) := by decide +kernel
theorem dX11_meeting_64 : decode cX11_meeting 64 = .ok (.ireturn, 1) := by decide +kernel
theorem dX11_meeting_65 : decode cX11_meeting 65 = .ok (.iinc 5 1, 3) := by decide +kernel
theorem dX11_meeting_68 : decode cX11_meeting 68 = .ok (.goto (-65), 3) := by decide +kernel
theorem dX11_meeting_71 : decode cX11_meeting 71 = .ok (.iconst (-1), 1) := by decide +kernel
theorem dX11_meeting_72 : decode cX11_meeting 72 = .ok (.ireturn, 1) := by decide +kernel
set_option maxRecDepth 20000 in
theorem ggX11_meet_X11_meeting : GoodIn wsX11_meet wsX11_meeting := goodIn_r _ [10, 11, 12, 13, 14, 15, 16, 17, 18, 19, 20, 21, 22, 9, 23, 24, 25, 26, 27, 28, 29, 30, 31, 32, 33, 34, 35, 36, 37, 38, 39, 40, 41, 42, 43, 44, 45, 46, 47, 48, 49, 50, 51, 52, 53, 54, 55, 56, 57, 58, 59, 60, 61, 62, 63, 64, 65, 66, 67, 68] (by decide +kernel) (by decide +kernel)
set_option maxRecDepth 20000 in
theorem gX11_meet_X11_meeting : GoodIn wsX11_meet (wsV RX11 179 RX11 yX11_meeting wsX11_meeting) := goodIn_app (goodIn_of _ (by decide +kernel)) ggX11_meet_X11_meeting
theorem dX11_meet_0 : decode cX11_meet 0 = .ok (.aload_n 0, 1) := by decide +kernel
theorem dX11_meet_1 : decode cX11_meet 1 = .ok (.iconst 0, 1) := by decide +kernel
theorem dX11_meet_2 : decode cX11_meet 2 = .ok (.putfield 83, 3) := by decide +kernel
theorem dX11_meet_5 : decode cX11_meet 5 = .ok (.iconst 0, 1) := by decide +kernel
theorem dX11_meet_6 : decode cX11_meet 6 = .ok (.istore_n 1, 1) := by decide +kernel
theorem dX11_meet_7 : decode cX11_meet 7 = .ok (.iload_n 1, 1) := by decide +kernel
theorem dX11_meet_8 : decode cX11_meet 8 = .ok (.aload_n 0, 1) := by decide +kernel
theorem dX11_meet_9 : decode cX11_meet 9 = .ok (.getfield 121, 3) := by decide +kernel
theorem dX11_meet_12 : decode cX11_meet 12 = .ok (.if_icmp .ge 78, 3) := by decide +kernel
theorem dX11_meet_15 : decode cX11_meet 15 = .ok (.iload_n 1, 1) := by decide +kernel
theorem dX11_meet_16 : decode cX11_meet 16 = .ok (.iconst 1, 1) := by decide +kernel
theorem dX11_meet_17 : decode cX11_meet 17 = .ok (.iadd, 1) := by decide +kernel
theorem dX11_meet_18 : decode cX11_meet 18 = .ok (.istore_n 2, 1) := by decide +kernel
theorem dX11_meet_19 : decode cX11_meet 19 = .ok (.iload_n 2, 1) := by decide +kernel
theorem dX11_meet_20 : decode cX11_meet 20 = .ok (.aload_n 0, 1) := by decide +kernel
theorem dX11_meet_21 : decode cX11_meet 21 = .ok (.getfield 121, 3) := by decide +kernel
theorem dX11_meet_24 : decode cX11_meet 24 = .ok (.if_icmp .ge 60, 3) := by decide +kernel
theorem dX11_meet_27 : decode cX11_meet 27 = .ok (.aload_n 0, 1) := by decide +kernel
theorem dX11_meet_28 : decode cX11_meet 28 = .ok (.iload_n 1, 1) := by decide +kernel
theorem dX11_meet_29 : decode cX11_meet 29 = .ok (.aload_n 0, 1) := by decide +kernel
theorem dX11_meet_30 : decode cX11_meet 30 = .ok (.getfield 44, 3) := by decide +kernel
theorem dX11_meet_33 : decode cX11_meet 33 = .ok (.iload_n 1, 1) := by decide +kernel
theorem dX11_meet_34 : decode cX11_meet 34 = .ok (.iaload, 1) := by decide +kernel
theorem dX11_meet_35 : decode cX11_meet 35 = .ok (.iload_n 2, 1) := by decide +kernel
theorem dX11_meet_36 : decode cX11_meet 36 = .ok (.aload_n 0, 1) := by decide +kernel
theorem dX11_meet_37 : decode cX11_meet 37 = .ok (.getfield 44, 3) := by decide +kernel
theorem dX11_meet_40 : decode cX11_meet 40 = .ok (.iload_n 2, 1) := by decide +kernel
theorem dX11_meet_41 : decode cX11_meet 41 = .ok (.iaload, 1) := by decide +kernel
theorem dX11_meet_42 : decode cX11_meet 42 = .ok (.invokevirtual 179, 3) := by decide +kernel
theorem dX11_meet_45 : decode cX11_meet 45 = .ok (.istore_n 3, 1) := by decide +kernel
theorem dX11_meet_46 : decode cX11_meet 46 = .ok (.iload_n 3, 1) := by decide +kernel
theorem dX11_meet_47 : decode cX11_meet 47 = .ok (.ifCond .lt 31, 3) := by decide +kernel
theorem dX11_meet_50 : decode cX11_meet 50 = .ok (.aload_n 0, 1) := by decide +kernel
theorem dX11_meet_51 : decode cX11_meet 51 = .ok (.iconst 3, 1) := by decide +kernel
theorem dX11_meet_52 : decode cX11_meet 52 = .ok (.putfield 130, 3) := by decide +kernel
theorem dX11_meet_55 : decode cX11_meet 55 = .ok (.aload_n 0, 1) := by decide +kernel
theorem dX11_meet_56 : decode cX11_meet 56 = .ok (.getfield 25, 3) := by decide +kernel
theorem dX11_meet_59 : decode cX11_meet 59 = .ok (.iconst 0, 1) := by decide +kernel
theorem dX11_meet_60 : decode cX11_meet 60 = .ok (.iload_n 1, 1) := by decide +kernel
theorem dX11_meet_61 : decode cX11_meet 61 = .ok (.iastore, 1) := by decide +kernel
theorem dX11_meet_62 : decode cX11_meet 62 = .ok (.aload_n 0, 1) := by decide +kernel
theorem dX11_meet_63 : decode cX11_meet 63 = .ok (.getfield 25, 3) := by decide +kernel
theorem dX11_meet_66 : decode cX11_meet 66 = .ok (.iconst 1, 1) := by decide +kernel
theorem dX11_meet_67 : decode cX11_meet 67 = .ok (.iload_n 2, 1) := by decide +kernel
theorem dX11_meet_68 : decode cX11_meet 68 = .ok (.iastore, 1) := by decide +kernel
theorem dX11_meet_69 : decode cX11_meet 69 = .ok (.aload_n 0, 1) := by decide +kernel
theorem dX11_meet_70 : decode cX11_meet 70 = .ok (.getfield 25, 3) := by decide +kernel
theorem dX11_meet_73 : decode cX11_meet 73 = .ok (.iconst 2, 1) := by decide +kernel
theorem dX11_meet_74 : decode cX11_meet 74 = .ok (.iload_n 3, 1) := by decide +kernel
theorem dX11_meet_75 : decode cX11_meet 75 = .ok (.iastore, 1) := by decide +kernel
theorem dX11_meet_76 : decode cX11_meet 76 = .ok (.iconst 1, 1) := by decide +kernel
theorem dX11_meet_77 : decode cX11_meet 77 = .ok (.ireturn, 1) := by decide +kernel
theorem dX11_meet_78 : decode cX11_meet 78 = .ok (.iinc 2 1, 3) := by decide +kernel
theorem dX11_meet_81 : decode cX11_meet 81 = .ok (.goto (-62), 3) := by decide +kernel
theorem dX11_meet_84 : decode cX11_meet 84 = .ok (.iinc 1 1, 3) := by decide +kernel
theorem dX11_meet_87 : decode cX11_meet 87 = .ok (.goto (-80), 3) := by decide +kernel
theorem dX11_meet_90 : decode cX11_meet 90 = .ok (.iconst 0, 1) := by decide +kernel
theorem dX11_meet_91 : decode cX11_meet 91 = .ok (.ireturn, 1) := by decide +kernel
set_option maxRecDepth 20000 in
theorem ggX11_delays_X11_meeting : GoodIn wsX11_delays wsX11_meeting := goodIn_r _ [10, 11, 12, 13, 14, 15, 16, 17, 18, 19, 20, 21, 22, 9, 23, 24, 25, 26, 27, 28, 29, 30, 34, 35, 36, 37, 38, 39, 40, 41, 42, 43, 44, 45, 46, 47, 48, 49, 50, 51, 52, 53, 54, 55, 56, 57, 58, 59, 60, 61, 62, 63, 64, 65, 66, 67, 68, 69, 70, 71] (by decide +kernel) (by decide +kernel)
set_option maxRecDepth 20000 in
theorem gX11_delays_X11_meeting : GoodIn wsX11_delays (wsV RX11 179 RX11 yX11_meeting wsX11_meeting) := goodIn_app (goodIn_of _ (by decide +kernel)) ggX11_delays_X11_meeting
set_option maxRecDepth 20000 in
theorem ggX11_delays_X11_delays : GoodIn wsX11_delays wsX11_delays := goodIn_r _ [0, 1, 2, 3, 4, 5, 6, 7, 8, 9, 10, 11, 12, 13, 14, 15, 16, 17, 18, 19, 20, 21, 22, 23, 24, 25, 26, 27, 28, 29, 30, 31, 32, 33, 34, 35, 36, 37, 38, 39, 40, 41, 42, 43, 44, 45, 46, 47, 48, 49, 50, 51, 52, 53, 54, 55, 56, 57, 58, 59, 60, 61, 62, 63, 64, 65, 66, 67, 68, 69, 70, 71] (by decide +kernel) (by decide +kernel)
set_option maxRecDepth 20000 in
theorem gX11_delays_X11_delays : GoodIn wsX11_delays (wsV RX11 189 RX11 yX11_delays wsX11_delays) := goodIn_app (goodIn_of _ (by decide +kernel)) ggX11_delays_X11_delays
theorem dX11_delays_0 : decode cX11_delays 0 = .ok (.iload_n 2, 1) := by decide +kernel
theorem dX11_delays_1 : decode cX11_delays 1 = .ok (.aload_n 0, 1) := by decide +kernel
theorem dX11_delays_2 : decode cX11_delays 2 = .ok (.getfield 183, 3) := by decide +kernel
theorem dX11_delays_5 : decode cX11_delays 5 = .ok (.if_icmp .gt 19, 3) := by decide +kernel
theorem dX11_delays_8 : decode cX11_delays 8 = .ok (.iload_n 2, 1) := by decide +kernel
theorem dX11_delays_9 : decode cX11_delays 9 = .ok (.aload_n 0, 1) := by decide +kernel
theorem dX11_delays_10 : decode cX11_delays 10 = .ok (.getfield 183, 3) := by decide +kernel
theorem dX11_delays_13 : decode cX11_delays 13 = .ok (.if_icmp .ne 12, 3) := by decide +kernel
theorem dX11_delays_16 : decode cX11_delays 16 = .ok (.iload_n 3, 1) := by decide +kernel
theorem dX11_delays_17 : decode cX11_delays 17 = .ok (.aload_n 0, 1) := by decide +kernel
theorem dX11_delays_18 : decode cX11_delays 18 = .ok (.getfield 186, 3) := by decide +kernel
theorem dX11_delays_21 : decode cX11_delays 21 = .ok (.if_icmp .lt 4, 3) := by decide +kernel
theorem dX11_delays_24 : decode cX11_delays 24 = .ok (.return_, 1) := by decide +kernel
theorem dX11_delays_25 : decode cX11_delays 25 = .ok (.iload_n 1, 1) := by decide +kernel
theorem dX11_delays_26 : decode cX11_delays 26 = .ok (.aload_n 0, 1) := by decide +kernel
theorem dX11_delays_27 : decode cX11_delays 27 = .ok (.getfield 121, 3) := by decide +kernel
theorem dX11_delays_30 : decode cX11_delays 30 = .ok (.if_icmp .ne 46, 3) := by decide +kernel
theorem dX11_delays_33 : decode cX11_delays 33 = .ok (.aload_n 0, 1) := by decide +kernel
theorem dX11_delays_34 : decode cX11_delays 34 = .ok (.iload_n 2, 1) := by decide +kernel
theorem dX11_delays_35 : decode cX11_delays 35 = .ok (.putfield 183, 3) := by decide +kernel
theorem dX11_delays_38 : decode cX11_delays 38 = .ok (.aload_n 0, 1) := by decide +kernel
theorem dX11_delays_39 : decode cX11_delays 39 = .ok (.iload_n 3, 1) := by decide +kernel
theorem dX11_delays_40 : decode cX11_delays 40 = .ok (.putfield 186, 3) := by decide +kernel
theorem dX11_delays_43 : decode cX11_delays 43 = .ok (.iconst 0, 1) := by decide +kernel
theorem dX11_delays_44 : decode cX11_delays 44 = .ok (.istore 4, 2) := by decide +kernel
theorem dX11_delays_46 : decode cX11_delays 46 = .ok (.iload 4, 2) := by decide +kernel
theorem dX11_delays_48 : decode cX11_delays 48 = .ok (.aload_n 0, 1) := by decide +kernel
theorem dX11_delays_49 : decode cX11_delays 49 = .ok (.getfield 121, 3) := by decide +kernel
theorem dX11_delays_52 : decode cX11_delays 52 = .ok (.if_icmp .ge 23, 3) := by decide +kernel
theorem dX11_delays_55 : decode cX11_delays 55 = .ok (.aload_n 0, 1) := by decide +kernel
theorem dX11_delays_56 : decode cX11_delays 56 = .ok (.getfield 50, 3) := by decide +kernel
theorem dX11_delays_59 : decode cX11_delays 59 = .ok (.iload 4, 2) := by decide +kernel
theorem dX11_delays_61 : decode cX11_delays 61 = .ok (.aload_n 0, 1) := by decide +kernel
theorem dX11_delays_62 : decode cX11_delays 62 = .ok (.getfield 47, 3) := by decide +kernel
theorem dX11_delays_65 : decode cX11_delays 65 = .ok (.iload 4, 2) := by decide +kernel
theorem dX11_delays_67 : decode cX11_delays 67 = .ok (.iaload, 1) := by decide +kernel
theorem dX11_delays_68 : decode cX11_delays 68 = .ok (.iastore, 1) := by decide +kernel
theorem dX11_delays_69 : decode cX11_delays 69 = .ok (.iinc 4 1, 3) := by decide +kernel
theorem dX11_delays_72 : decode cX11_delays 72 = .ok (.goto (-26), 3) := by decide +kernel
theorem dX11_delays_75 : decode cX11_delays 75 = .ok (.return_, 1) := by decide +kernel
theorem dX11_delays_76 : decode cX11_delays 76 = .ok (.iconst 0, 1) := by decide +kernel
theorem dX11_delays_77 : decode cX11_delays 77 = .ok (.istore 4, 2) := by decide +kernel
theorem dX11_delays_79 : decode cX11_delays 79 = .ok (.iload 4, 2) := by decide +kernel
theorem dX11_delays_81 : decode cX11_delays 81 = .ok (.bipush 30, 2) := by decide +kernel
theorem dX11_delays_83 : decode cX11_delays 83 = .ok (.if_icmp .gt 94, 3) := by decide +kernel
theorem dX11_delays_86 : decode cX11_delays 86 = .ok (.iconst 1, 1) := by decide +kernel
theorem dX11_delays_87 : decode cX11_delays 87 = .ok (.istore 5, 2) := by decide +kernel
theorem dX11_delays_89 : decode cX11_delays 89 = .ok (.iconst 0, 1) := by decide +kernel
theorem dX11_delays_90 : decode cX11_delays 90 = .ok (.istore 6, 2) := by decide +kernel
theorem dX11_delays_92 : decode cX11_delays 92 = .ok (.iload 6, 2) := by decide +kernel
theorem dX11_delays_94 : decode cX11_delays 94 = .ok (.iload_n 1, 1) := by decide +kernel
theorem dX11_delays_95 : decode cX11_delays 95 = .ok (.if_icmp .ge 40, 3) := by decide +kernel
theorem dX11_delays_98 : decode cX11_delays 98 = .ok (.iload 5, 2) := by decide +kernel
theorem dX11_delays_100 : decode cX11_delays 100 = .ok (.ifCond .eq 35, 3) := by decide +kernel
theorem dX11_delays_103 : decode cX11_delays 103 = .ok (.aload_n 0, 1) := by decide +kernel
theorem dX11_delays_104 : decode cX11_delays 104 = .ok (.iload 6, 2) := by decide +kernel
theorem dX11_delays_106 : decode cX11_delays 106 = .ok (.aload_n 0, 1) := by decide +kernel
theorem dX11_delays_107 : decode cX11_delays 107 = .ok (.getfield 47, 3) := by decide +kernel
theorem dX11_delays_110 : decode cX11_delays 110 = .ok (.iload 6, 2) := by decide +kernel
theorem dX11_delays_112 : decode cX11_delays 112 = .ok (.iaload, 1) := by decide +kernel
theorem dX11_delays_113 : decode cX11_delays 113 = .ok (.iload_n 1, 1) := by decide +kernel
theorem dX11_delays_114 : decode cX11_delays 114 = .ok (.iload 4, 2) := by decide +kernel
theorem dX11_delays_116 : decode cX11_delays 116 = .ok (.invokevirtual 179, 3) := by decide +kernel
theorem dX11_delays_119 : decode cX11_delays 119 = .ok (.ifCond .ge 7, 3) := by decide +kernel
theorem dX11_delays_122 : decode cX11_delays 122 = .ok (.iconst 1, 1) := by decide +kernel
theorem dX11_delays_123 : decode cX11_delays 123 = .ok (.goto 4, 3) := by decide +kernel
theorem dX11_delays_126 : decode cX11_delays 126 = .ok (.iconst 0, 1) := by decide +kernel
theorem dX11_delays_127 : decode cX11_delays 127 = .ok (.istore 5, 2) := by decide +kernel
theorem dX11_delays_129 : decode cX11_delays 129 = .ok (.iinc 6 1, 3) := by decide +kernel
theorem dX11_delays_132 : decode cX11_delays 132 = .ok (.goto (-40), 3) := by decide +kernel
theorem dX11_delays_135 : decode cX11_delays 135 = .ok (.iload 5, 2) := by decide +kernel
theorem dX11_delays_137 : decode cX11_delays 137 = .ok (.ifCond .eq 34, 3) := by decide +kernel
theorem dX11_delays_140 : decode cX11_delays 140 = .ok (.aload_n 0, 1) := by decide +kernel
theorem dX11_delays_141 : decode cX11_delays 141 = .ok (.getfield 47, 3) := by decide +kernel
theorem dX11_delays_144 : decode cX11_delays 144 = .ok (.iload_n 1, 1) := by decide +kernel
theorem dX11_delays_145 : decode cX11_delays 145 = .ok (.iload 4, 2) := by decide +kernel
theorem dX11_delays_147 : decode cX11_delays 147 = .ok (.iastore, 1) := by decide +kernel
theorem dX11_delays_148 : decode cX11_delays 148 = .ok (.aload_n 0, 1) := by decide +kernel
theorem dX11_delays_149 : decode cX11_delays 149 = .ok (.iload_n 1, 1) := by decide +kernel
theorem dX11_delays_150 : decode cX11_delays 150 = .ok (.iconst 1, 1) := by decide +kernel
theorem dX11_delays_151 : decode cX11_delays 151 = .ok (.iadd, 1) := by decide +kernel
theorem dX11_delays_152 : decode cX11_delays 152 = .ok (.iload_n 2, 1) := by decide +kernel
theorem dX11_delays_153 : decode cX11_delays 153 = .ok (.iload 4, 2) := by decide +kernel
theorem dX11_delays_155 : decode cX11_delays 155 = .ok (.ifCond .le 7, 3) := by decide +kernel
theorem dX11_delays_158 : decode cX11_delays 158 = .ok (.iconst 1, 1) := by decide +kernel
theorem dX11_delays_159 : decode cX11_delays 159 = .ok (.goto 4, 3) := by decide +kernel
theorem dX11_delays_162 : decode cX11_delays 162 = .ok (.iconst 0, 1) := by decide +kernel
theorem dX11_delays_163 : decode cX11_delays 163 = .ok (.iadd, 1) := by decide +kernel
theorem dX11_delays_164 : decode cX11_delays 164 = .ok (.iload_n 3, 1) := by decide +kernel
theorem dX11_delays_165 : decode cX11_delays 165 = .ok (.iload 4, 2) := by decide +kernel
theorem dX11_delays_167 : decode cX11_delays 167 = .ok (.iadd, 1) := by decide +kernel
theorem dX11_delays_168 : decode cX11_delays 168 = .ok (.invokevirtual 189, 3) := by decide +kernel
theorem dX11_delays_171 : decode cX11_delays 171 = .ok (.iinc 4 5, 3) := by decide +kernel
theorem dX11_delays_174 : decode cX11_delays 174 = .ok (.goto (-95), 3) := by decide +kernel
theorem dX11_delays_177 : decode cX11_delays 177 = .ok (.return_, 1) := by decide +kernel
set_option maxRecDepth 20000 in
theorem ggX11_free_X11_delays : GoodIn wsX11_free wsX11_delays := goodIn_r _ [12, 3, 4, 5, 7, 13, 14, 15, 16, 11, 17, 18, 19, 20, 21, 22, 23, 24, 25, 26, 27, 28, 29, 30, 31, 32, 33, 34, 35, 36, 37, 8, 9, 10, 38, 39, 40, 41, 42, 43, 44, 45, 46, 47, 48, 49, 50, 51, 52, 53, 54, 55, 56, 57, 58, 59, 60, 61, 62, 63, 64, 65, 66, 67, 68, 69, 70, 71, 72, 73, 74, 75] (by decide +kernel) (by decide +kernel)
set_option maxRecDepth 20000 in
theorem gX11_free_X11_delays : GoodIn wsX11_free (wsV RX11 189 RX11 yX11_delays wsX11_delays) := goodIn_app (goodIn_of _ (by decide +kernel)) ggX11_free_X11_delays
theorem dX11_free_0 : decode cX11_free 0 = .ok (.aload_n 0, 1) := by decide +kernel
theorem dX11_free_1 : decode cX11_free 1 = .ok (.iconst 0, 1) := by decide +kernel
theorem dX11_free_2 : decode cX11_free 2 = .ok (.putfield 83, 3) := by decide +kernel
theorem dX11_free_5 : decode cX11_free 5 = .ok (.aload_n 0, 1) := by decide +kernel
theorem dX11_free_6 : decode cX11_free 6 = .ok (.ldc 193, 2) := by decide +kernel
theorem dX11_free_8 : decode cX11_free 8 = .ok (.putfield 183, 3) := by decide +kernel
theorem dX11_free_11 : decode cX11_free 11 = .ok (.aload_n 0, 1) := by decide +kernel
theorem dX11_free_12 : decode cX11_free 12 = .ok (.ldc 193, 2) := by decide +kernel
theorem dX11_free_14 : decode cX11_free 14 = .ok (.putfield 186, 3) := by decide +kernel
theorem dX11_free_17 : decode cX11_free 17 = .ok (.aload_n 0, 1) := by decide +kernel
theorem dX11_free_18 : decode cX11_free 18 = .ok (.iconst 0, 1) := by decide +kernel
theorem dX11_free_19 : decode cX11_free 19 = .ok (.iconst 0, 1) := by decide +kernel
theorem dX11_free_20 : decode cX11_free 20 = .ok (.iconst 0, 1) := by decide +kernel
theorem dX11_free_21 : decode cX11_free 21 = .ok (.invokevirtual 189, 3) := by decide +kernel
theorem dX11_free_24 : decode cX11_free 24 = .ok (.aload_n 0, 1) := by decide +kernel
theorem dX11_free_25 : decode cX11_free 25 = .ok (.getfield 183, 3) := by decide +kernel
theorem dX11_free_28 : decode cX11_free 28 = .ok (.ldc 193, 2) := by decide +kernel
theorem dX11_free_30 : decode cX11_free 30 = .ok (.if_icmp .ne 5, 3) := by decide +kernel
theorem dX11_free_33 : decode cX11_free 33 = .ok (.iconst (-1), 1) := by decide +kernel
theorem dX11_free_34 : decode cX11_free 34 = .ok (.ireturn, 1) := by decide +kernel
theorem dX11_free_35 : decode cX11_free 35 = .ok (.iconst 0, 1) := by decide +kernel
theorem dX11_free_36 : decode cX11_free 36 = .ok (.istore_n 1, 1) := by decide +kernel
theorem dX11_free_37 : decode cX11_free 37 = .ok (.iload_n 1, 1) := by decide +kernel
theorem dX11_free_38 : decode cX11_free 38 = .ok (.aload_n 0, 1) := by decide +kernel
theorem dX11_free_39 : decode cX11_free 39 = .ok (.getfield 121, 3) := by decide +kernel
theorem dX11_free_42 : decode cX11_free 42 = .ok (.if_icmp .ge 21, 3) := by decide +kernel
theorem dX11_free_45 : decode cX11_free 45 = .ok (.aload_n 0, 1) := by decide +kernel
theorem dX11_free_46 : decode cX11_free 46 = .ok (.getfield 44, 3) := by decide +kernel
theorem dX11_free_49 : decode cX11_free 49 = .ok (.iload_n 1, 1) := by decide +kernel
theorem dX11_free_50 : decode cX11_free 50 = .ok (.aload_n 0, 1) := by decide +kernel
theorem dX11_free_51 : decode cX11_free 51 = .ok (.getfield 50, 3) := by decide +kernel
theorem dX11_free_54 : decode cX11_free 54 = .ok (.iload_n 1, 1) := by decide +kernel
theorem dX11_free_55 : decode cX11_free 55 = .ok (.iaload, 1) := by decide +kernel
theorem dX11_free_56 : decode cX11_free 56 = .ok (.iastore, 1) := by decide +kernel
theorem dX11_free_57 : decode cX11_free 57 = .ok (.iinc 1 1, 3) := by decide +kernel
theorem dX11_free_60 : decode cX11_free 60 = .ok (.goto (-23), 3) := by decide +kernel
theorem dX11_free_63 : decode cX11_free 63 = .ok (.aload_n 0, 1) := by decide +kernel
theorem dX11_free_64 : decode cX11_free 64 = .ok (.getfield 183, 3) := by decide +kernel
theorem dX11_free_67 : decode cX11_free 67 = .ok (.ireturn, 1) := by decide +kernel
theorem dX11_close_0 : decode cX11_close 0 = .ok (.aload_n 0, 1) := by decide +kernel
theorem dX11_close_1 : decode cX11_close 1 = .ok (.iconst 0, 1) := by decide +kernel
theorem dX11_close_2 : decode cX11_close 2 = .ok (.putfield 83, 3) := by decide +kernel
theorem dX11_close_5 : decode cX11_close 5 = .ok (.aload_n 0, 1) := by decide +kernel
theorem dX11_close_6 : decode cX11_close 6 = .ok (.getfield 121, 3) := by decide +kernel
theorem dX11_close_9 : decode cX11_close 9 = .ok (.istore_n 1, 1) := by decide +kernel
theorem dX11_close_10 : decode cX11_close 10 = .ok (.aload_n 0, 1) := by decide +kernel
theorem dX11_close_11 : decode cX11_close 11 = .ok (.iconst 0, 1) := by decide +kernel
theorem dX11_close_12 : decode cX11_close 12 = .ok (.putfield 121, 3) := by decide +kernel
theorem dX11_close_15 : decode cX11_close 15 = .ok (.aload_n 0, 1) := by decide +kernel
theorem dX11_close_16 : decode cX11_close 16 = .ok (.iconst 0, 1) := by decide +kernel
theorem dX11_close_17 : decode cX11_close 17 = .ok (.putfield 118, 3) := by decide +kernel
theorem dX11_close_20 : decode cX11_close 20 = .ok (.iload_n 1, 1) := by decide +kernel
theorem dX11_close_21 : decode cX11_close 21 = .ok (.ireturn, 1) := by decide +kernel
theorem dX11_sign_0 : decode cX11_sign 0 = .ok (.aload_n 0, 1) := by decide +kernel
theorem dX11_sign_1 : decode cX11_sign 1 = .ok (.iconst 0, 1) := by decide +kernel
theorem dX11_sign_2 : decode cX11_sign 2 = .ok (.putfield 83, 3) := by decide +kernel
theorem dX11_sign_5 : decode cX11_sign 5 = .ok (.aload_n 0, 1) := by decide +kernel
theorem dX11_sign_6 : decode cX11_sign 6 = .ok (.getfield 133, 3) := by decide +kernel
theorem dX11_sign_9 : decode cX11_sign 9 = .ok (.bipush 96, 2) := by decide +kernel
theorem dX11_sign_11 : decode cX11_sign 11 = .ok (.if_icmp .le 5, 3) := by decide +kernel
theorem dX11_sign_14 : decode cX11_sign 14 = .ok (.iconst (-1), 1) := by decide +kernel
theorem dX11_sign_15 : decode cX11_sign 15 = .ok (.ireturn, 1) := by decide +kernel
theorem dX11_sign_16 : decode cX11_sign 16 = .ok (.iconst 0, 1) := by decide +kernel
theorem dX11_sign_17 : decode cX11_sign 17 = .ok (.istore_n 2, 1) := by decide +kernel
theorem dX11_sign_18 : decode cX11_sign 18 = .ok (.iload_n 2, 1) := by decide +kernel
theorem dX11_sign_19 : decode cX11_sign 19 = .ok (.iconst 4, 1) := by decide +kernel
theorem dX11_sign_20 : decode cX11_sign 20 = .ok (.if_icmp .ge 33, 3) := by decide +kernel
theorem dX11_sign_23 : decode cX11_sign 23 = .ok (.aload_n 0, 1) := by decide +kernel
theorem dX11_sign_24 : decode cX11_sign 24 = .ok (.getfield 53, 3) := by decide +kernel
theorem dX11_sign_27 : decode cX11_sign 27 = .ok (.aload_n 0, 1) := by decide +kernel
theorem dX11_sign_28 : decode cX11_sign 28 = .ok (.getfield 133, 3) := by decide +kernel
theorem dX11_sign_31 : decode cX11_sign 31 = .ok (.iload_n 2, 1) := by decide +kernel
theorem dX11_sign_32 : decode cX11_sign 32 = .ok (.iadd, 1) := by decide +kernel
theorem dX11_sign_33 : decode cX11_sign 33 = .ok (.iload_n 1, 1) := by decide +kernel
theorem dX11_sign_34 : decode cX11_sign 34 = .ok (.bipush 24, 2) := by decide +kernel
theorem dX11_sign_36 : decode cX11_sign 36 = .ok (.bipush 8, 2) := by decide +kernel
theorem dX11_sign_38 : decode cX11_sign 38 = .ok (.iload_n 2, 1) := by decide +kernel
theorem dX11_sign_39 : decode cX11_sign 39 = .ok (.imul, 1) := by decide +kernel
theorem dX11_sign_40 : decode cX11_sign 40 = .ok (.isub, 1) := by decide +kernel
theorem dX11_sign_41 : decode cX11_sign 41 = .ok (.ishr, 1) := by decide +kernel
theorem dX11_sign_42 : decode cX11_sign 42 = .ok (.sipush 255, 3) := by decide +kernel
theorem dX11_sign_45 : decode cX11_sign 45 = .ok (.iand, 1) := by decide +kernel
theorem dX11_sign_46 : decode cX11_sign 46 = .ok (.iastore, 1) := by decide +kernel
theorem dX11_sign_47 : decode cX11_sign 47 = .ok (.iinc 2 1, 3) := by decide +kernel
theorem dX11_sign_50 : decode cX11_sign 50 = .ok (.goto (-32), 3) := by decide +kernel
theorem dX11_sign_53 : decode cX11_sign 53 = .ok (.aload_n 0, 1) := by decide +kernel
theorem dX11_sign_54 : decode cX11_sign 54 = .ok (.dup, 1) := by decide +kernel
theorem dX11_sign_55 : decode cX11_sign 55 = .ok (.getfield 133, 3) := by decide +kernel
theorem dX11_sign_58 : decode cX11_sign 58 = .ok (.iconst 4, 1) := by decide +kernel
theorem dX11_sign_59 : decode cX11_sign 59 = .ok (.iadd, 1) := by decide +kernel
theorem dX11_sign_60 : decode cX11_sign 60 = .ok (.putfield 133, 3) := by decide +kernel
theorem dX11_sign_63 : decode cX11_sign 63 = .ok (.aload_n 0, 1) := by decide +kernel
theorem dX11_sign_64 : decode cX11_sign 64 = .ok (.getfield 133, 3) := by decide +kernel
theorem dX11_sign_67 : decode cX11_sign 67 = .ok (.ireturn, 1) := by decide +kernel
set_option maxRecDepth 20000 in
theorem ggX11_end_X11_in : GoodIn wsX11_end wsX11_in := goodIn_r _ [6] (by decide +kernel) (by decide +kernel)
set_option maxRecDepth 20000 in
theorem gX11_end_X11_in : GoodIn wsX11_end (va_wsS RX11 90 yX11_in wsX11_in) := goodIn_app (goodIn_of _ (by decide +kernel)) ggX11_end_X11_in
theorem dX11_end_0 : decode cX11_end 0 = .ok (.aload_n 0, 1) := by decide +kernel
theorem dX11_end_1 : decode cX11_end 1 = .ok (.iconst 0, 1) := by decide +kernel
theorem dX11_end_2 : decode cX11_end 2 = .ok (.putfield 83, 3) := by decide +kernel
theorem dX11_end_5 : decode cX11_end 5 = .ok (.iload_n 1, 1) := by decide +kernel
theorem dX11_end_6 : decode cX11_end 6 = .ok (.i2l, 1) := by decide +kernel
theorem dX11_end_7 : decode cX11_end 7 = .ok (.lconst 0, 1) := by decide +kernel
theorem dX11_end_8 : decode cX11_end 8 = .ok (.aload_n 0, 1) := by decide +kernel
theorem dX11_end_9 : decode cX11_end 9 = .ok (.getfield 133, 3) := by decide +kernel
theorem dX11_end_12 : decode cX11_end 12 = .ok (.i2l, 1) := by decide +kernel
theorem dX11_end_13 : decode cX11_end 13 = .ok (.invokestatic 90, 3) := by decide +kernel
theorem dX11_end_16 : decode cX11_end 16 = .ok (.ifCond .ne 5, 3) := by decide +kernel
theorem dX11_end_19 : decode cX11_end 19 = .ok (.iconst 0, 1) := by decide +kernel
theorem dX11_end_20 : decode cX11_end 20 = .ok (.ireturn, 1) := by decide +kernel
theorem dX11_end_21 : decode cX11_end 21 = .ok (.aload_n 0, 1) := by decide +kernel
theorem dX11_end_22 : decode cX11_end 22 = .ok (.iload_n 1, 1) := by decide +kernel
theorem dX11_end_23 : decode cX11_end 23 = .ok (.putfield 133, 3) := by decide +kernel
theorem dX11_end_26 : decode cX11_end 26 = .ok (.iconst 1, 1) := by decide +kernel
theorem dX11_end_27 : decode cX11_end 27 = .ok (.ireturn, 1) := by decide +kernel
set_option maxRecDepth 20000 in
theorem ggX11_isSign_J0_indexOf_0f7a4 : GoodIn wsX11_isSign wsJ0_indexOf_0f7a4 := goodIn_r _ [7, 8, 9, 10, 6, 11, 12, 13, 14, 15, 16, 17, 18, 19, 20, 21, 22, 23, 24, 25, 26, 27, 28, 29, 30, 31, 32, 33, 34, 35, 36, 37, 38, 39, 40, 41, 42, 43, 44, 45, 46, 47, 48, 49, 50, 51, 52, 53, 54, 55, 56, 57, 58, 59, 60, 61, 62, 63, 64, 65, 66, 67, 68, 69, 70, 71, 72, 73, 74, 75, 76, 77, 78, 79, 80, 81, 82, 83, 84, 85, 86, 87, 88, 89, 90, 91] (by decide +kernel) (by decide +kernel)
set_option maxRecDepth 20000 in
theorem gX11_isSign_J0_indexOf_0f7a4 : GoodIn wsX11_isSign (wsV RX11 197 RJ0 yJ0_indexOf_0f7a4 wsJ0_indexOf_0f7a4) := goodIn_app (goodIn_of _ (by decide +kernel)) ggX11_isSign_J0_indexOf_0f7a4
theorem dX11_isSign_0 : decode cX11_isSign 0 = .ok (.aload_n 0, 1) := by decide +kernel
theorem dX11_isSign_1 : decode cX11_isSign 1 = .ok (.getfield 194, 3) := by decide +kernel
theorem dX11_isSign_4 : decode cX11_isSign 4 = .ok (.iload_n 1, 1) := by decide +kernel
theorem dX11_isSign_5 : decode cX11_isSign 5 = .ok (.if_icmp .ge 35, 3) := by decide +kernel
theorem dX11_isSign_8 : decode cX11_isSign 8 = .ok (.aload_n 0, 1) := by decide +kernel
theorem dX11_isSign_9 : decode cX11_isSign 9 = .ok (.getfield 53, 3) := by decide +kernel
theorem dX11_isSign_12 : decode cX11_isSign 12 = .ok (.aload_n 0, 1) := by decide +kernel
theorem dX11_isSign_13 : decode cX11_isSign 13 = .ok (.getfield 194, 3) := by decide +kernel
theorem dX11_isSign_16 : decode cX11_isSign 16 = .ok (.iaload, 1) := by decide +kernel
theorem dX11_isSign_17 : decode cX11_isSign 17 = .ok (.ifCond .le 23, 3) := by decide +kernel
theorem dX11_isSign_20 : decode cX11_isSign 20 = .ok (.aload_n 2, 1) := by decide +kernel
theorem dX11_isSign_21 : decode cX11_isSign 21 = .ok (.aload_n 0, 1) := by decide +kernel
theorem dX11_isSign_22 : decode cX11_isSign 22 = .ok (.getfield 53, 3) := by decide +kernel
theorem dX11_isSign_25 : decode cX11_isSign 25 = .ok (.aload_n 0, 1) := by decide +kernel
theorem dX11_isSign_26 : decode cX11_isSign 26 = .ok (.getfield 194, 3) := by decide +kernel
theorem dX11_isSign_29 : decode cX11_isSign 29 = .ok (.iaload, 1) := by decide +kernel
theorem dX11_isSign_30 : decode cX11_isSign 30 = .ok (.invokevirtual 197, 3) := by decide +kernel
theorem dX11_isSign_33 : decode cX11_isSign 33 = .ok (.ifCond .lt 7, 3) := by decide +kernel
theorem dX11_isSign_36 : decode cX11_isSign 36 = .ok (.iconst 1, 1) := by decide +kernel
theorem dX11_isSign_37 : decode cX11_isSign 37 = .ok (.goto 4, 3) := by decide +kernel
theorem dX11_isSign_40 : decode cX11_isSign 40 = .ok (.iconst 0, 1) := by decide +kernel
theorem dX11_isSign_41 : decode cX11_isSign 41 = .ok (.ireturn, 1) := by decide +kernel
set_option maxRecDepth 20000 in
theorem ggX11_item_X11_isSign : GoodIn wsX11_item wsX11_isSign := goodIn_r _ [10, 3, 2, 11, 12, 13, 14, 15, 16, 17, 18, 19, 20, 21, 22, 23, 24, 25, 26, 27, 28, 29, 30, 31, 32, 33, 34, 35, 36, 37, 38, 39, 40, 41, 42, 43, 44, 45, 46, 47, 48, 49, 50, 51, 52, 53, 54, 55, 56, 57, 58, 59, 60, 61, 62, 63, 64, 65, 66, 67, 68, 69, 70, 71, 72, 73, 74, 75, 76, 77, 78, 79, 80, 81, 82, 83, 84, 85, 86, 87, 88, 89, 90, 91, 92, 93, 94, 95, 96, 97, 98, 99, 100, 101, 102, 103, 104, 105, 106, 107, 108, 109, 110, 111, 112, 113, 114, 115, 116, 117, 118, 119, 120, 121, 122, 123, 124, 125, 126, 127, 128, 129, 130, 131, 132, 133, 134, 135, 136, 137] (by decide +kernel) (by decide +kernel)
set_option maxRecDepth 20000 in
theorem gX11_item_X11_isSign : GoodIn wsX11_item (wsV RX11 205 RX11 yX11_isSign wsX11_isSign) := goodIn_app (goodIn_of _ (by decide +kernel)) ggX11_item_X11_isSign
theorem dX11_item_0 : decode cX11_item 0 = .ok (.aload_n 0, 1) := by decide +kernel
theorem dX11_item_1 : decode cX11_item 1 = .ok (.iload_n 1, 1) := by decide +kernel
theorem dX11_item_2 : decode cX11_item 2 = .ok (.ldc 203, 2) := by decide +kernel
theorem dX11_item_4 : decode cX11_item 4 = .ok (.invokevirtual 205, 3) := by decide +kernel
theorem dX11_item_7 : decode cX11_item 7 = .ok (.ifCond .ne 5, 3) := by decide +kernel
theorem dX11_item_10 : decode cX11_item 10 = .ok (.iconst 0, 1) := by decide +kernel
theorem dX11_item_11 : decode cX11_item 11 = .ok (.ireturn, 1) := by decide +kernel
theorem dX11_item_12 : decode cX11_item 12 = .ok (.bipush 6, 2) := by decide +kernel
theorem dX11_item_14 : decode cX11_item 14 = .ok (.aload_n 0, 1) := by decide +kernel
theorem dX11_item_15 : decode cX11_item 15 = .ok (.getfield 124, 3) := by decide +kernel
theorem dX11_item_18 : decode cX11_item 18 = .ok (.imul, 1) := by decide +kernel
theorem dX11_item_19 : decode cX11_item 19 = .ok (.aload_n 0, 1) := by decide +kernel
theorem dX11_item_20 : decode cX11_item 20 = .ok (.getfield 53, 3) := by decide +kernel
theorem dX11_item_23 : decode cX11_item 23 = .ok (.aload_n 0, 1) := by decide +kernel
theorem dX11_item_24 : decode cX11_item 24 = .ok (.getfield 194, 3) := by decide +kernel
theorem dX11_item_27 : decode cX11_item 27 = .ok (.iaload, 1) := by decide +kernel
theorem dX11_item_28 : decode cX11_item 28 = .ok (.iadd, 1) := by decide +kernel
theorem dX11_item_29 : decode cX11_item 29 = .ok (.bipush 97, 2) := by decide +kernel
theorem dX11_item_31 : decode cX11_item 31 = .ok (.isub, 1) := by decide +kernel
theorem dX11_item_32 : decode cX11_item 32 = .ok (.istore_n 2, 1) := by decide +kernel
theorem dX11_item_33 : decode cX11_item 33 = .ok (.aload_n 0, 1) := by decide +kernel
theorem dX11_item_34 : decode cX11_item 34 = .ok (.dup, 1) := by decide +kernel
theorem dX11_item_35 : decode cX11_item 35 = .ok (.getfield 194, 3) := by decide +kernel
theorem dX11_item_38 : decode cX11_item 38 = .ok (.iconst 1, 1) := by decide +kernel
theorem dX11_item_39 : decode cX11_item 39 = .ok (.iadd, 1) := by decide +kernel
theorem dX11_item_40 : decode cX11_item 40 = .ok (.putfield 194, 3) := by decide +kernel
theorem dX11_item_43 : decode cX11_item 43 = .ok (.aload_n 0, 1) := by decide +kernel
theorem dX11_item_44 : decode cX11_item 44 = .ok (.iload_n 1, 1) := by decide +kernel
theorem dX11_item_45 : decode cX11_item 45 = .ok (.ldc 209, 2) := by decide +kernel
theorem dX11_item_47 : decode cX11_item 47 = .ok (.invokevirtual 205, 3) := by decide +kernel
theorem dX11_item_50 : decode cX11_item 50 = .ok (.ifCond .ne 5, 3) := by decide +kernel
theorem dX11_item_53 : decode cX11_item 53 = .ok (.iconst 0, 1) := by decide +kernel
theorem dX11_item_54 : decode cX11_item 54 = .ok (.ireturn, 1) := by decide +kernel
theorem dX11_item_55 : decode cX11_item 55 = .ok (.aload_n 0, 1) := by decide +kernel
theorem dX11_item_56 : decode cX11_item 56 = .ok (.dup, 1) := by decide +kernel
theorem dX11_item_57 : decode cX11_item 57 = .ok (.getfield 194, 3) := by decide +kernel
theorem dX11_item_60 : decode cX11_item 60 = .ok (.iconst 1, 1) := by decide +kernel
theorem dX11_item_61 : decode cX11_item 61 = .ok (.iadd, 1) := by decide +kernel
theorem dX11_item_62 : decode cX11_item 62 = .ok (.putfield 194, 3) := by decide +kernel
theorem dX11_item_65 : decode cX11_item 65 = .ok (.aload_n 0, 1) := by decide +kernel
theorem dX11_item_66 : decode cX11_item 66 = .ok (.iload_n 1, 1) := by decide +kernel
theorem dX11_item_67 : decode cX11_item 67 = .ok (.ldc 211, 2) := by decide +kernel
theorem dX11_item_69 : decode cX11_item 69 = .ok (.invokevirtual 205, 3) := by decide +kernel
theorem dX11_item_72 : decode cX11_item 72 = .ok (.ifCond .ne 5, 3) := by decide +kernel
theorem dX11_item_75 : decode cX11_item 75 = .ok (.iconst 0, 1) := by decide +kernel
theorem dX11_item_76 : decode cX11_item 76 = .ok (.ireturn, 1) := by decide +kernel
theorem dX11_item_77 : decode cX11_item 77 = .ok (.aload_n 0, 1) := by decide +kernel
theorem dX11_item_78 : decode cX11_item 78 = .ok (.getfield 62, 3) := by decide +kernel
theorem dX11_item_81 : decode cX11_item 81 = .ok (.iload_n 2, 1) := by decide +kernel
theorem dX11_item_82 : decode cX11_item 82 = .ok (.aload_n 0, 1) := by decide +kernel
theorem dX11_item_83 : decode cX11_item 83 = .ok (.getfield 53, 3) := by decide +kernel
theorem dX11_item_86 : decode cX11_item 86 = .ok (.aload_n 0, 1) := by decide +kernel
theorem dX11_item_87 : decode cX11_item 87 = .ok (.getfield 194, 3) := by decide +kernel
theorem dX11_item_90 : decode cX11_item 90 = .ok (.iaload, 1) := by decide +kernel
theorem dX11_item_91 : decode cX11_item 91 = .ok (.iastore, 1) := by decide +kernel
theorem dX11_item_92 : decode cX11_item 92 = .ok (.aload_n 0, 1) := by decide +kernel
theorem dX11_item_93 : decode cX11_item 93 = .ok (.getfield 65, 3) := by decide +kernel
theorem dX11_item_96 : decode cX11_item 96 = .ok (.iload_n 2, 1) := by decide +kernel
theorem dX11_item_97 : decode cX11_item 97 = .ok (.iconst 0, 1) := by decide +kernel
theorem dX11_item_98 : decode cX11_item 98 = .ok (.iastore, 1) := by decide +kernel
theorem dX11_item_99 : decode cX11_item 99 = .ok (.aload_n 0, 1) := by decide +kernel
theorem dX11_item_100 : decode cX11_item 100 = .ok (.dup, 1) := by decide +kernel
theorem dX11_item_101 : decode cX11_item 101 = .ok (.getfield 194, 3) := by decide +kernel
theorem dX11_item_104 : decode cX11_item 104 = .ok (.iconst 1, 1) := by decide +kernel
theorem dX11_item_105 : decode cX11_item 105 = .ok (.iadd, 1) := by decide +kernel
theorem dX11_item_106 : decode cX11_item 106 = .ok (.putfield 194, 3) := by decide +kernel
theorem dX11_item_109 : decode cX11_item 109 = .ok (.aload_n 0, 1) := by decide +kernel
theorem dX11_item_110 : decode cX11_item 110 = .ok (.iload_n 1, 1) := by decide +kernel
theorem dX11_item_111 : decode cX11_item 111 = .ok (.ldc 213, 2) := by decide +kernel
theorem dX11_item_113 : decode cX11_item 113 = .ok (.invokevirtual 205, 3) := by decide +kernel
theorem dX11_item_116 : decode cX11_item 116 = .ok (.ifCond .ne 5, 3) := by decide +kernel
theorem dX11_item_119 : decode cX11_item 119 = .ok (.iconst 1, 1) := by decide +kernel
theorem dX11_item_120 : decode cX11_item 120 = .ok (.ireturn, 1) := by decide +kernel
theorem dX11_item_121 : decode cX11_item 121 = .ok (.aload_n 0, 1) := by decide +kernel
theorem dX11_item_122 : decode cX11_item 122 = .ok (.getfield 53, 3) := by decide +kernel
theorem dX11_item_125 : decode cX11_item 125 = .ok (.aload_n 0, 1) := by decide +kernel
theorem dX11_item_126 : decode cX11_item 126 = .ok (.getfield 194, 3) := by decide +kernel
theorem dX11_item_129 : decode cX11_item 129 = .ok (.iaload, 1) := by decide +kernel
theorem dX11_item_130 : decode cX11_item 130 = .ok (.bipush 43, 2) := by decide +kernel
theorem dX11_item_132 : decode cX11_item 132 = .ok (.if_icmp .ne 7, 3) := by decide +kernel
theorem dX11_item_135 : decode cX11_item 135 = .ok (.iconst 1, 1) := by decide +kernel
theorem dX11_item_136 : decode cX11_item 136 = .ok (.goto 4, 3) := by decide +kernel
theorem dX11_item_139 : decode cX11_item 139 = .ok (.iconst (-1), 1) := by decide +kernel
theorem dX11_item_140 : decode cX11_item 140 = .ok (.istore_n 3, 1) := by decide +kernel
theorem dX11_item_141 : decode cX11_item 141 = .ok (.aload_n 0, 1) := by decide +kernel
theorem dX11_item_142 : decode cX11_item 142 = .ok (.dup, 1) := by decide +kernel
theorem dX11_item_143 : decode cX11_item 143 = .ok (.getfield 194, 3) := by decide +kernel
theorem dX11_item_146 : decode cX11_item 146 = .ok (.iconst 1, 1) := by decide +kernel
theorem dX11_item_147 : decode cX11_item 147 = .ok (.iadd, 1) := by decide +kernel
theorem dX11_item_148 : decode cX11_item 148 = .ok (.putfield 194, 3) := by decide +kernel
theorem dX11_item_151 : decode cX11_item 151 = .ok (.aload_n 0, 1) := by decide +kernel
theorem dX11_item_152 : decode cX11_item 152 = .ok (.getfield 194, 3) := by decide +kernel
theorem dX11_item_155 : decode cX11_item 155 = .ok (.istore 4, 2) := by decide +kernel
theorem dX11_item_157 : decode cX11_item 157 = .ok (.aload_n 0, 1) := by decide +kernel
theorem dX11_item_158 : decode cX11_item 158 = .ok (.getfield 194, 3) := by decide +kernel
theorem dX11_item_161 : decode cX11_item 161 = .ok (.iload 4, 2) := by decide +kernel
theorem dX11_item_163 : decode cX11_item 163 = .ok (.iconst 3, 1) := by decide +kernel
theorem dX11_item_164 : decode cX11_item 164 = .ok (.iadd, 1) := by decide +kernel
theorem dX11_item_165 : decode cX11_item 165 = .ok (.if_icmp .ge 56, 3) := by decide +kernel
theorem dX11_item_168 : decode cX11_item 168 = .ok (.aload_n 0, 1) := by decide +kernel
theorem dX11_item_169 : decode cX11_item 169 = .ok (.iload_n 1, 1) := by decide +kernel
theorem dX11_item_170 : decode cX11_item 170 = .ok (.ldc 215, 2) := by decide +kernel
theorem dX11_item_172 : decode cX11_item 172 = .ok (.invokevirtual 205, 3) := by decide +kernel
theorem dX11_item_175 : decode cX11_item 175 = .ok (.ifCond .eq 46, 3) := by decide +kernel
theorem dX11_item_178 : decode cX11_item 178 = .ok (.aload_n 0, 1) := by decide +kernel
theorem dX11_item_179 : decode cX11_item 179 = .ok (.getfield 65, 3) := by decide +kernel
theorem dX11_item_182 : decode cX11_item 182 = .ok (.iload_n 2, 1) := by decide +kernel
theorem dX11_item_183 : decode cX11_item 183 = .ok (.bipush 10, 2) := by decide +kernel
theorem dX11_item_185 : decode cX11_item 185 = .ok (.aload_n 0, 1) := by decide +kernel
theorem dX11_item_186 : decode cX11_item 186 = .ok (.getfield 65, 3) := by decide +kernel
theorem dX11_item_189 : decode cX11_item 189 = .ok (.iload_n 2, 1) := by decide +kernel
theorem dX11_item_190 : decode cX11_item 190 = .ok (.iaload, 1) := by decide +kernel
theorem dX11_item_191 : decode cX11_item 191 = .ok (.imul, 1) := by decide +kernel
theorem dX11_item_192 : decode cX11_item 192 = .ok (.iload_n 3, 1) := by decide +kernel
theorem dX11_item_193 : decode cX11_item 193 = .ok (.aload_n 0, 1) := by decide +kernel
theorem dX11_item_194 : decode cX11_item 194 = .ok (.getfield 53, 3) := by decide +kernel
theorem dX11_item_197 : decode cX11_item 197 = .ok (.aload_n 0, 1) := by decide +kernel
theorem dX11_item_198 : decode cX11_item 198 = .ok (.getfield 194, 3) := by decide +kernel
theorem dX11_item_201 : decode cX11_item 201 = .ok (.iaload, 1) := by decide +kernel
theorem dX11_item_202 : decode cX11_item 202 = .ok (.bipush 48, 2) := by decide +kernel
theorem dX11_item_204 : decode cX11_item 204 = .ok (.isub, 1) := by decide +kernel
theorem dX11_item_205 : decode cX11_item 205 = .ok (.imul, 1) := by decide +kernel
theorem dX11_item_206 : decode cX11_item 206 = .ok (.iadd, 1) := by decide +kernel
theorem dX11_item_207 : decode cX11_item 207 = .ok (.iastore, 1) := by decide +kernel
theorem dX11_item_208 : decode cX11_item 208 = .ok (.aload_n 0, 1) := by decide +kernel
theorem dX11_item_209 : decode cX11_item 209 = .ok (.dup, 1) := by decide +kernel
theorem dX11_item_210 : decode cX11_item 210 = .ok (.getfield 194, 3) := by decide +kernel
theorem dX11_item_213 : decode cX11_item 213 = .ok (.iconst 1, 1) := by decide +kernel
theorem dX11_item_214 : decode cX11_item 214 = .ok (.iadd, 1) := by decide +kernel
theorem dX11_item_215 : decode cX11_item 215 = .ok (.putfield 194, 3) := by decide +kernel
theorem dX11_item_218 : decode cX11_item 218 = .ok (.goto (-61), 3) := by decide +kernel
theorem dX11_item_221 : decode cX11_item 221 = .ok (.aload_n 0, 1) := by decide +kernel
theorem dX11_item_222 : decode cX11_item 222 = .ok (.getfield 194, 3) := by decide +kernel
theorem dX11_item_225 : decode cX11_item 225 = .ok (.iload 4, 2) := by decide +kernel
theorem dX11_item_227 : decode cX11_item 227 = .ok (.if_icmp .le 7, 3) := by decide +kernel
theorem dX11_item_230 : decode cX11_item 230 = .ok (.iconst 1, 1) := by decide +kernel
theorem dX11_item_231 : decode cX11_item 231 = .ok (.goto 4, 3) := by decide +kernel
theorem dX11_item_234 : decode cX11_item 234 = .ok (.iconst 0, 1) := by decide +kernel
theorem dX11_item_235 : decode cX11_item 235 = .ok (.ireturn, 1) := by decide +kernel
set_option maxRecDepth 20000 in
theorem ggX11_reads_X11_item : GoodIn wsX11_reads wsX11_item := goodIn_r _ [8, 3, 9, 1, 2, 10, 11, 12, 13, 7, 14, 15, 16, 17, 18, 19, 20, 21, 22, 23, 24, 25, 26, 27, 28, 29, 30, 31, 32, 33, 34, 35, 36, 37, 38, 39, 40, 41, 42, 43, 44, 45, 46, 47, 48, 49, 50, 51, 52, 53, 54, 55, 56, 57, 58, 59, 60, 61, 62, 63, 64, 65, 66, 67, 68, 69, 70, 71, 72, 73, 74, 75, 76, 77, 78, 79, 80, 81, 82, 83, 84, 85, 86, 87, 88, 89, 90, 91, 92, 93, 94, 95, 96, 97, 98, 99, 100, 101, 102, 103, 104, 105, 106, 107, 108, 109, 110, 111, 112, 113, 114, 115, 116, 117, 118, 119, 120, 121, 122, 123, 124, 125, 126, 127, 128, 129, 130, 131, 132, 133, 134, 135, 136, 137, 138, 139, 140, 141] (by decide +kernel) (by decide +kernel)
set_option maxRecDepth 20000 in
theorem gX11_reads_X11_item : GoodIn wsX11_reads (wsV RX11 217 RX11 yX11_item wsX11_item) := goodIn_app (goodIn_of _ (by decide +kernel)) ggX11_reads_X11_item
set_option maxRecDepth 20000 in
theorem ggX11_reads_X11_isSign : GoodIn wsX11_reads wsX11_isSign := goodIn_r _ [14, 1, 9, 15, 16, 17, 18, 19, 20, 21, 22, 23, 24, 25, 26, 27, 28, 29, 30, 31, 32, 33, 34, 35, 36, 37, 38, 39, 40, 41, 42, 43, 44, 45, 46, 47, 48, 49, 50, 51, 52, 53, 54, 55, 56, 57, 58, 59, 60, 61, 62, 63, 64, 65, 66, 67, 68, 69, 70, 71, 72, 73, 74, 75, 76, 77, 78, 79, 80, 81, 82, 83, 84, 85, 86, 87, 88, 89, 90, 91, 92, 93, 94, 95, 96, 97, 98, 99, 100, 101, 102, 103, 104, 105, 106, 107, 108, 109, 110, 111, 112, 113, 114, 115, 116, 117, 118, 119, 120, 121, 122, 123, 124, 125, 126, 127, 128, 129, 130, 131, 132, 133, 134, 135, 136, 137, 138, 139, 140, 141] (by decide +kernel) (by decide +kernel)
set_option maxRecDepth 20000 in
theorem gX11_reads_X11_isSign : GoodIn wsX11_reads (wsV RX11 205 RX11 yX11_isSign wsX11_isSign) := goodIn_app (goodIn_of _ (by decide +kernel)) ggX11_reads_X11_isSign
theorem dX11_reads_0 : decode cX11_reads 0 = .ok (.aload_n 0, 1) := by decide +kernel
theorem dX11_reads_1 : decode cX11_reads 1 = .ok (.iconst 0, 1) := by decide +kernel
theorem dX11_reads_2 : decode cX11_reads 2 = .ok (.putfield 194, 3) := by decide +kernel
theorem dX11_reads_5 : decode cX11_reads 5 = .ok (.iconst 0, 1) := by decide +kernel
theorem dX11_reads_6 : decode cX11_reads 6 = .ok (.istore_n 2, 1) := by decide +kernel
theorem dX11_reads_7 : decode cX11_reads 7 = .ok (.iload_n 2, 1) := by decide +kernel
theorem dX11_reads_8 : decode cX11_reads 8 = .ok (.bipush 6, 2) := by decide +kernel
theorem dX11_reads_10 : decode cX11_reads 10 = .ok (.if_icmp .ge 24, 3) := by decide +kernel
theorem dX11_reads_13 : decode cX11_reads 13 = .ok (.aload_n 0, 1) := by decide +kernel
theorem dX11_reads_14 : decode cX11_reads 14 = .ok (.getfield 62, 3) := by decide +kernel
theorem dX11_reads_17 : decode cX11_reads 17 = .ok (.bipush 6, 2) := by decide +kernel
theorem dX11_reads_19 : decode cX11_reads 19 = .ok (.aload_n 0, 1) := by decide +kernel
theorem dX11_reads_20 : decode cX11_reads 20 = .ok (.getfield 124, 3) := by decide +kernel
theorem dX11_reads_23 : decode cX11_reads 23 = .ok (.imul, 1) := by decide +kernel
theorem dX11_reads_24 : decode cX11_reads 24 = .ok (.iload_n 2, 1) := by decide +kernel
theorem dX11_reads_25 : decode cX11_reads 25 = .ok (.iadd, 1) := by decide +kernel
theorem dX11_reads_26 : decode cX11_reads 26 = .ok (.iconst 0, 1) := by decide +kernel
theorem dX11_reads_27 : decode cX11_reads 27 = .ok (.iastore, 1) := by decide +kernel
theorem dX11_reads_28 : decode cX11_reads 28 = .ok (.iinc 2 1, 3) := by decide +kernel
theorem dX11_reads_31 : decode cX11_reads 31 = .ok (.goto (-24), 3) := by decide +kernel
theorem dX11_reads_34 : decode cX11_reads 34 = .ok (.aload_n 0, 1) := by decide +kernel
theorem dX11_reads_35 : decode cX11_reads 35 = .ok (.iload_n 1, 1) := by decide +kernel
theorem dX11_reads_36 : decode cX11_reads 36 = .ok (.invokevirtual 217, 3) := by decide +kernel
theorem dX11_reads_39 : decode cX11_reads 39 = .ok (.ifCond .ne 5, 3) := by decide +kernel
theorem dX11_reads_42 : decode cX11_reads 42 = .ok (.iconst 0, 1) := by decide +kernel
theorem dX11_reads_43 : decode cX11_reads 43 = .ok (.ireturn, 1) := by decide +kernel
theorem dX11_reads_44 : decode cX11_reads 44 = .ok (.aload_n 0, 1) := by decide +kernel
theorem dX11_reads_45 : decode cX11_reads 45 = .ok (.iload_n 1, 1) := by decide +kernel
theorem dX11_reads_46 : decode cX11_reads 46 = .ok (.ldc 220, 2) := by decide +kernel
theorem dX11_reads_48 : decode cX11_reads 48 = .ok (.invokevirtual 205, 3) := by decide +kernel
theorem dX11_reads_51 : decode cX11_reads 51 = .ok (.ifCond .eq 23, 3) := by decide +kernel
theorem dX11_reads_54 : decode cX11_reads 54 = .ok (.aload_n 0, 1) := by decide +kernel
theorem dX11_reads_55 : decode cX11_reads 55 = .ok (.dup, 1) := by decide +kernel
theorem dX11_reads_56 : decode cX11_reads 56 = .ok (.getfield 194, 3) := by decide +kernel
theorem dX11_reads_59 : decode cX11_reads 59 = .ok (.iconst 1, 1) := by decide +kernel
theorem dX11_reads_60 : decode cX11_reads 60 = .ok (.iadd, 1) := by decide +kernel
theorem dX11_reads_61 : decode cX11_reads 61 = .ok (.putfield 194, 3) := by decide +kernel
theorem dX11_reads_64 : decode cX11_reads 64 = .ok (.aload_n 0, 1) := by decide +kernel
theorem dX11_reads_65 : decode cX11_reads 65 = .ok (.iload_n 1, 1) := by decide +kernel
theorem dX11_reads_66 : decode cX11_reads 66 = .ok (.invokevirtual 217, 3) := by decide +kernel
theorem dX11_reads_69 : decode cX11_reads 69 = .ok (.ifCond .ne (-25), 3) := by decide +kernel
theorem dX11_reads_72 : decode cX11_reads 72 = .ok (.iconst 0, 1) := by decide +kernel
theorem dX11_reads_73 : decode cX11_reads 73 = .ok (.ireturn, 1) := by decide +kernel
theorem dX11_reads_74 : decode cX11_reads 74 = .ok (.aload_n 0, 1) := by decide +kernel
theorem dX11_reads_75 : decode cX11_reads 75 = .ok (.getfield 194, 3) := by decide +kernel
theorem dX11_reads_78 : decode cX11_reads 78 = .ok (.iload_n 1, 1) := by decide +kernel
theorem dX11_reads_79 : decode cX11_reads 79 = .ok (.if_icmp .ne 7, 3) := by decide +kernel
theorem dX11_reads_82 : decode cX11_reads 82 = .ok (.iconst 1, 1) := by decide +kernel
theorem dX11_reads_83 : decode cX11_reads 83 = .ok (.goto 4, 3) := by decide +kernel
theorem dX11_reads_86 : decode cX11_reads 86 = .ok (.iconst 0, 1) := by decide +kernel
theorem dX11_reads_87 : decode cX11_reads 87 = .ok (.ireturn, 1) := by decide +kernel
set_option maxRecDepth 20000 in
theorem ggX11_law_X11_isTown : GoodIn wsX11_law wsX11_isTown := goodIn_r _ [15, 16, 17, 18, 14, 19, 125, 126, 127, 128, 129, 130, 131, 132, 133, 134, 135, 136, 137, 138, 139, 140, 141, 142, 143, 144, 145, 146, 147, 148, 149, 150, 151, 152, 153, 154, 155, 156, 157, 158, 159, 160, 161, 162] (by decide +kernel) (by decide +kernel)
set_option maxRecDepth 20000 in
theorem gX11_law_X11_isTown : GoodIn wsX11_law (wsV RX11 102 RX11 yX11_isTown wsX11_isTown) := goodIn_app (goodIn_of _ (by decide +kernel)) ggX11_law_X11_isTown
set_option maxRecDepth 20000 in
theorem ggX11_law_X11_isDay : GoodIn wsX11_law wsX11_isDay := goodIn_r _ [22, 23, 17, 18, 14, 19] (by decide +kernel) (by decide +kernel)
set_option maxRecDepth 20000 in
theorem gX11_law_X11_isDay : GoodIn wsX11_law (va_wsS RX11 106 yX11_isDay wsX11_isDay) := goodIn_app (goodIn_of _ (by decide +kernel)) ggX11_law_X11_isDay
set_option maxRecDepth 20000 in
theorem ggX11_law_X11_reads : GoodIn wsX11_law wsX11_reads := goodIn_r _ [27, 8, 28, 3, 29, 30, 31, 14, 32, 33, 34, 35, 36, 37, 38, 39, 40, 41, 42, 43, 44, 45, 46, 47, 48, 49, 50, 51, 52, 53, 54, 55, 56, 57, 58, 59, 60, 61, 62, 63, 64, 65, 66, 67, 68, 6, 69, 70, 5, 7, 71, 72, 73, 74, 75, 76, 77, 78, 79, 80, 81, 82, 83, 84, 85, 86, 87, 88, 89, 90, 91, 92, 93, 94, 95, 96, 97, 98, 99, 100, 101, 102, 103, 104, 105, 106, 107, 108, 109, 110, 111, 112, 113, 114, 115, 116, 117, 118, 119, 120, 121, 122, 123, 124, 125, 126, 127, 128, 129, 130, 131, 132, 133, 134, 135, 136, 137, 138, 139, 140, 141, 142, 143, 144, 145, 146, 147, 148, 149, 150, 151, 152, 153, 154, 155, 156, 157, 158, 159, 160, 161, 162] (by decide +kernel) (by decide +kernel)
set_option maxRecDepth 20000 in
theorem gX11_law_X11_reads : GoodIn wsX11_law (wsV RX11 222 RX11 yX11_reads wsX11_reads) := goodIn_app (goodIn_of _ (by decide +kernel)) ggX11_law_X11_reads
theorem dX11_law_0 : decode cX11_law 0 = .ok (.aload_n 0, 1) := by decide +kernel
theorem dX11_law_1 : decode cX11_law 1 = .ok (.iconst 0, 1) := by decide +kernel
theorem dX11_law_2 : decode cX11_law 2 = .ok (.putfield 83, 3) := by decide +kernel
theorem dX11_law_5 : decode cX11_law 5 = .ok (.aload_n 0, 1) := by decide +kernel
theorem dX11_law_6 : decode cX11_law 6 = .ok (.getfield 133, 3) := by decide +kernel
theorem dX11_law_9 : decode cX11_law 9 = .ok (.istore_n 3, 1) := by decide +kernel
theorem dX11_law_10 : decode cX11_law 10 = .ok (.aload_n 0, 1) := by decide +kernel
theorem dX11_law_11 : decode cX11_law 11 = .ok (.iconst 0, 1) := by decide +kernel
theorem dX11_law_12 : decode cX11_law 12 = .ok (.putfield 133, 3) := by decide +kernel
theorem dX11_law_15 : decode cX11_law 15 = .ok (.aload_n 0, 1) := by decide +kernel
theorem dX11_law_16 : decode cX11_law 16 = .ok (.iload_n 1, 1) := by decide +kernel
theorem dX11_law_17 : decode cX11_law 17 = .ok (.invokevirtual 102, 3) := by decide +kernel
theorem dX11_law_20 : decode cX11_law 20 = .ok (.ifCond .eq 19, 3) := by decide +kernel
theorem dX11_law_23 : decode cX11_law 23 = .ok (.iload_n 2, 1) := by decide +kernel
theorem dX11_law_24 : decode cX11_law 24 = .ok (.invokestatic 106, 3) := by decide +kernel
theorem dX11_law_27 : decode cX11_law 27 = .ok (.ifCond .eq 12, 3) := by decide +kernel
theorem dX11_law_30 : decode cX11_law 30 = .ok (.aload_n 0, 1) := by decide +kernel
theorem dX11_law_31 : decode cX11_law 31 = .ok (.getfield 124, 3) := by decide +kernel
theorem dX11_law_34 : decode cX11_law 34 = .ok (.bipush 20, 2) := by decide +kernel
theorem dX11_law_36 : decode cX11_law 36 = .ok (.if_icmp .ne 6, 3) := by decide +kernel
theorem dX11_law_39 : decode cX11_law 39 = .ok (.bipush (-100), 2) := by decide +kernel
theorem dX11_law_41 : decode cX11_law 41 = .ok (.ireturn, 1) := by decide +kernel
theorem dX11_law_42 : decode cX11_law 42 = .ok (.aload_n 0, 1) := by decide +kernel
theorem dX11_law_43 : decode cX11_law 43 = .ok (.iload_n 3, 1) := by decide +kernel
theorem dX11_law_44 : decode cX11_law 44 = .ok (.bipush 40, 2) := by decide +kernel
theorem dX11_law_46 : decode cX11_law 46 = .ok (.invokestatic 176, 3) := by decide +kernel
theorem dX11_law_49 : decode cX11_law 49 = .ok (.invokevirtual 222, 3) := by decide +kernel
theorem dX11_law_52 : decode cX11_law 52 = .ok (.istore 4, 2) := by decide +kernel
theorem dX11_law_54 : decode cX11_law 54 = .ok (.iload_n 3, 1) := by decide +kernel
theorem dX11_law_55 : decode cX11_law 55 = .ok (.bipush 40, 2) := by decide +kernel
theorem dX11_law_57 : decode cX11_law 57 = .ok (.if_icmp .le 20, 3) := by decide +kernel
theorem dX11_law_60 : decode cX11_law 60 = .ok (.iload 4, 2) := by decide +kernel
theorem dX11_law_62 : decode cX11_law 62 = .ok (.ifCond .ne 12, 3) := by decide +kernel
theorem dX11_law_65 : decode cX11_law 65 = .ok (.aload_n 0, 1) := by decide +kernel
theorem dX11_law_66 : decode cX11_law 66 = .ok (.getfield 194, 3) := by decide +kernel
theorem dX11_law_69 : decode cX11_law 69 = .ok (.bipush 40, 2) := by decide +kernel
theorem dX11_law_71 : decode cX11_law 71 = .ok (.if_icmp .lt 6, 3) := by decide +kernel
theorem dX11_law_74 : decode cX11_law 74 = .ok (.bipush (-41), 2) := by decide +kernel
theorem dX11_law_76 : decode cX11_law 76 = .ok (.ireturn, 1) := by decide +kernel
theorem dX11_law_77 : decode cX11_law 77 = .ok (.iload 4, 2) := by decide +kernel
theorem dX11_law_79 : decode cX11_law 79 = .ok (.ifCond .ne 10, 3) := by decide +kernel
theorem dX11_law_82 : decode cX11_law 82 = .ok (.iconst (-1), 1) := by decide +kernel
theorem dX11_law_83 : decode cX11_law 83 = .ok (.aload_n 0, 1) := by decide +kernel
theorem dX11_law_84 : decode cX11_law 84 = .ok (.getfield 194, 3) := by decide +kernel
theorem dX11_law_87 : decode cX11_law 87 = .ok (.isub, 1) := by decide +kernel
theorem dX11_law_88 : decode cX11_law 88 = .ok (.ireturn, 1) := by decide +kernel
theorem dX11_law_89 : decode cX11_law 89 = .ok (.aload_n 0, 1) := by decide +kernel
theorem dX11_law_90 : decode cX11_law 90 = .ok (.getfield 56, 3) := by decide +kernel
theorem dX11_law_93 : decode cX11_law 93 = .ok (.aload_n 0, 1) := by decide +kernel
theorem dX11_law_94 : decode cX11_law 94 = .ok (.getfield 124, 3) := by decide +kernel
theorem dX11_law_97 : decode cX11_law 97 = .ok (.iload_n 1, 1) := by decide +kernel
theorem dX11_law_98 : decode cX11_law 98 = .ok (.iastore, 1) := by decide +kernel
theorem dX11_law_99 : decode cX11_law 99 = .ok (.aload_n 0, 1) := by decide +kernel
theorem dX11_law_100 : decode cX11_law 100 = .ok (.getfield 59, 3) := by decide +kernel
theorem dX11_law_103 : decode cX11_law 103 = .ok (.aload_n 0, 1) := by decide +kernel
theorem dX11_law_104 : decode cX11_law 104 = .ok (.getfield 124, 3) := by decide +kernel
theorem dX11_law_107 : decode cX11_law 107 = .ok (.iload_n 2, 1) := by decide +kernel
theorem dX11_law_108 : decode cX11_law 108 = .ok (.iastore, 1) := by decide +kernel
theorem dX11_law_109 : decode cX11_law 109 = .ok (.aload_n 0, 1) := by decide +kernel
theorem dX11_law_110 : decode cX11_law 110 = .ok (.dup, 1) := by decide +kernel
theorem dX11_law_111 : decode cX11_law 111 = .ok (.getfield 124, 3) := by decide +kernel
theorem dX11_law_114 : decode cX11_law 114 = .ok (.iconst 1, 1) := by decide +kernel
theorem dX11_law_115 : decode cX11_law 115 = .ok (.iadd, 1) := by decide +kernel
theorem dX11_law_116 : decode cX11_law 116 = .ok (.putfield 124, 3) := by decide +kernel
theorem dX11_law_119 : decode cX11_law 119 = .ok (.aload_n 0, 1) := by decide +kernel
theorem dX11_law_120 : decode cX11_law 120 = .ok (.getfield 124, 3) := by decide +kernel
theorem dX11_law_123 : decode cX11_law 123 = .ok (.ireturn, 1) := by decide +kernel
set_option maxRecDepth 20000 in
theorem ggX11_more_X11_ahead : GoodIn wsX11_more wsX11_ahead := goodIn_r _ [11, 12, 13, 14, 15, 5, 16, 21, 22, 23, 24, 25, 26, 27, 28, 29, 30, 31, 32, 33, 34, 35, 36, 37, 38, 39, 40, 41, 42, 43, 44, 45, 46, 47, 48, 49, 50, 51, 52, 53, 54, 55, 56, 57, 58] (by decide +kernel) (by decide +kernel)
set_option maxRecDepth 20000 in
theorem gX11_more_X11_ahead : GoodIn wsX11_more (wsV RX11 139 RX11 yX11_ahead wsX11_ahead) := goodIn_app (goodIn_of _ (by decide +kernel)) ggX11_more_X11_ahead
set_option maxRecDepth 20000 in
theorem ggX11_more_J9_floorDiv_7cf53 : GoodIn wsX11_more wsJ9_floorDiv_7cf53 := goodIn_r _ [20] (by decide +kernel) (by decide +kernel)
set_option maxRecDepth 20000 in
theorem gX11_more_J9_floorDiv_7cf53 : GoodIn wsX11_more (va_wsS RX11 225 yJ9_floorDiv_7cf53 wsJ9_floorDiv_7cf53) := goodIn_app (goodIn_of _ (by decide +kernel)) ggX11_more_J9_floorDiv_7cf53
theorem dX11_more_0 : decode cX11_more 0 = .ok (.iconst (-1), 1) := by decide +kernel
theorem dX11_more_1 : decode cX11_more 1 = .ok (.istore 4, 2) := by decide +kernel
theorem dX11_more_3 : decode cX11_more 3 = .ok (.aload_n 0, 1) := by decide +kernel
theorem dX11_more_4 : decode cX11_more 4 = .ok (.getfield 124, 3) := by decide +kernel
theorem dX11_more_7 : decode cX11_more 7 = .ok (.iconst 1, 1) := by decide +kernel
theorem dX11_more_8 : decode cX11_more 8 = .ok (.isub, 1) := by decide +kernel
theorem dX11_more_9 : decode cX11_more 9 = .ok (.istore 5, 2) := by decide +kernel
theorem dX11_more_11 : decode cX11_more 11 = .ok (.iload 5, 2) := by decide +kernel
theorem dX11_more_13 : decode cX11_more 13 = .ok (.ifCond .lt 57, 3) := by decide +kernel
theorem dX11_more_16 : decode cX11_more 16 = .ok (.aload_n 0, 1) := by decide +kernel
theorem dX11_more_17 : decode cX11_more 17 = .ok (.getfield 56, 3) := by decide +kernel
theorem dX11_more_20 : decode cX11_more 20 = .ok (.iload 5, 2) := by decide +kernel
theorem dX11_more_22 : decode cX11_more 22 = .ok (.iaload, 1) := by decide +kernel
theorem dX11_more_23 : decode cX11_more 23 = .ok (.iload_n 1, 1) := by decide +kernel
theorem dX11_more_24 : decode cX11_more 24 = .ok (.if_icmp .ne 40, 3) := by decide +kernel
theorem dX11_more_27 : decode cX11_more 27 = .ok (.aload_n 0, 1) := by decide +kernel
theorem dX11_more_28 : decode cX11_more 28 = .ok (.getfield 59, 3) := by decide +kernel
theorem dX11_more_31 : decode cX11_more 31 = .ok (.iload 5, 2) := by decide +kernel
theorem dX11_more_33 : decode cX11_more 33 = .ok (.iaload, 1) := by decide +kernel
theorem dX11_more_34 : decode cX11_more 34 = .ok (.iload_n 3, 1) := by decide +kernel
theorem dX11_more_35 : decode cX11_more 35 = .ok (.if_icmp .gt 29, 3) := by decide +kernel
theorem dX11_more_38 : decode cX11_more 38 = .ok (.iload 4, 2) := by decide +kernel
theorem dX11_more_40 : decode cX11_more 40 = .ok (.ifCond .lt 20, 3) := by decide +kernel
theorem dX11_more_43 : decode cX11_more 43 = .ok (.aload_n 0, 1) := by decide +kernel
theorem dX11_more_44 : decode cX11_more 44 = .ok (.getfield 59, 3) := by decide +kernel
theorem dX11_more_47 : decode cX11_more 47 = .ok (.iload 5, 2) := by decide +kernel
theorem dX11_more_49 : decode cX11_more 49 = .ok (.iaload, 1) := by decide +kernel
theorem dX11_more_50 : decode cX11_more 50 = .ok (.aload_n 0, 1) := by decide +kernel
theorem dX11_more_51 : decode cX11_more 51 = .ok (.getfield 59, 3) := by decide +kernel
theorem dX11_more_54 : decode cX11_more 54 = .ok (.iload 4, 2) := by decide +kernel
theorem dX11_more_56 : decode cX11_more 56 = .ok (.iaload, 1) := by decide +kernel
theorem dX11_more_57 : decode cX11_more 57 = .ok (.if_icmp .le 7, 3) := by decide +kernel
theorem dX11_more_60 : decode cX11_more 60 = .ok (.iload 5, 2) := by decide +kernel
theorem dX11_more_62 : decode cX11_more 62 = .ok (.istore 4, 2) := by decide +kernel
theorem dX11_more_64 : decode cX11_more 64 = .ok (.iinc 5 (-1), 3) := by decide +kernel
theorem dX11_more_67 : decode cX11_more 67 = .ok (.goto (-56), 3) := by decide +kernel
theorem dX11_more_70 : decode cX11_more 70 = .ok (.iload 4, 2) := by decide +kernel
theorem dX11_more_72 : decode cX11_more 72 = .ok (.ifCond .ge 7, 3) := by decide +kernel
theorem dX11_more_75 : decode cX11_more 75 = .ok (.iconst 0, 1) := by decide +kernel
theorem dX11_more_76 : decode cX11_more 76 = .ok (.goto 15, 3) := by decide +kernel
theorem dX11_more_79 : decode cX11_more 79 = .ok (.aload_n 0, 1) := by decide +kernel
theorem dX11_more_80 : decode cX11_more 80 = .ok (.getfield 62, 3) := by decide +kernel
theorem dX11_more_83 : decode cX11_more 83 = .ok (.bipush 6, 2) := by decide +kernel
theorem dX11_more_85 : decode cX11_more 85 = .ok (.iload 4, 2) := by decide +kernel
theorem dX11_more_87 : decode cX11_more 87 = .ok (.imul, 1) := by decide +kernel
theorem dX11_more_88 : decode cX11_more 88 = .ok (.iload_n 2, 1) := by decide +kernel
theorem dX11_more_89 : decode cX11_more 89 = .ok (.iadd, 1) := by decide +kernel
theorem dX11_more_90 : decode cX11_more 90 = .ok (.iaload, 1) := by decide +kernel
theorem dX11_more_91 : decode cX11_more 91 = .ok (.istore 5, 2) := by decide +kernel
theorem dX11_more_93 : decode cX11_more 93 = .ok (.iload 5, 2) := by decide +kernel
theorem dX11_more_95 : decode cX11_more 95 = .ok (.ifCond .ne 10, 3) := by decide +kernel
theorem dX11_more_98 : decode cX11_more 98 = .ok (.aload_n 0, 1) := by decide +kernel
theorem dX11_more_99 : decode cX11_more 99 = .ok (.iload_n 1, 1) := by decide +kernel
theorem dX11_more_100 : decode cX11_more 100 = .ok (.iload_n 3, 1) := by decide +kernel
theorem dX11_more_101 : decode cX11_more 101 = .ok (.invokevirtual 139, 3) := by decide +kernel
theorem dX11_more_104 : decode cX11_more 104 = .ok (.ireturn, 1) := by decide +kernel
theorem dX11_more_105 : decode cX11_more 105 = .ok (.iload 5, 2) := by decide +kernel
theorem dX11_more_107 : decode cX11_more 107 = .ok (.bipush 108, 2) := by decide +kernel
theorem dX11_more_109 : decode cX11_more 109 = .ok (.if_icmp .ne 12, 3) := by decide +kernel
theorem dX11_more_112 : decode cX11_more 112 = .ok (.aload_n 0, 1) := by decide +kernel
theorem dX11_more_113 : decode cX11_more 113 = .ok (.getfield 9, 3) := by decide +kernel
theorem dX11_more_116 : decode cX11_more 116 = .ok (.iload_n 1, 1) := by decide +kernel
theorem dX11_more_117 : decode cX11_more 117 = .ok (.iaload, 1) := by decide +kernel
theorem dX11_more_118 : decode cX11_more 118 = .ok (.goto 36, 3) := by decide +kernel
theorem dX11_more_121 : decode cX11_more 121 = .ok (.iload 5, 2) := by decide +kernel
theorem dX11_more_123 : decode cX11_more 123 = .ok (.bipush 99, 2) := by decide +kernel
theorem dX11_more_125 : decode cX11_more 125 = .ok (.if_icmp .ne 12, 3) := by decide +kernel
theorem dX11_more_128 : decode cX11_more 128 = .ok (.aload_n 0, 1) := by decide +kernel
theorem dX11_more_129 : decode cX11_more 129 = .ok (.iload_n 1, 1) := by decide +kernel
theorem dX11_more_130 : decode cX11_more 130 = .ok (.iload_n 3, 1) := by decide +kernel
theorem dX11_more_131 : decode cX11_more 131 = .ok (.invokevirtual 139, 3) := by decide +kernel
theorem dX11_more_134 : decode cX11_more 134 = .ok (.goto 20, 3) := by decide +kernel
theorem dX11_more_137 : decode cX11_more 137 = .ok (.bipush 60, 2) := by decide +kernel
theorem dX11_more_139 : decode cX11_more 139 = .ok (.aload_n 0, 1) := by decide +kernel
theorem dX11_more_140 : decode cX11_more 140 = .ok (.getfield 9, 3) := by decide +kernel
theorem dX11_more_143 : decode cX11_more 143 = .ok (.iload_n 1, 1) := by decide +kernel
theorem dX11_more_144 : decode cX11_more 144 = .ok (.iaload, 1) := by decide +kernel
theorem dX11_more_145 : decode cX11_more 145 = .ok (.bipush 30, 2) := by decide +kernel
theorem dX11_more_147 : decode cX11_more 147 = .ok (.iadd, 1) := by decide +kernel
theorem dX11_more_148 : decode cX11_more 148 = .ok (.bipush 60, 2) := by decide +kernel
theorem dX11_more_150 : decode cX11_more 150 = .ok (.invokestatic 225, 3) := by decide +kernel
theorem dX11_more_153 : decode cX11_more 153 = .ok (.imul, 1) := by decide +kernel
theorem dX11_more_154 : decode cX11_more 154 = .ok (.istore 6, 2) := by decide +kernel
theorem dX11_more_156 : decode cX11_more 156 = .ok (.iload 6, 2) := by decide +kernel
theorem dX11_more_158 : decode cX11_more 158 = .ok (.aload_n 0, 1) := by decide +kernel
theorem dX11_more_159 : decode cX11_more 159 = .ok (.getfield 65, 3) := by decide +kernel
theorem dX11_more_162 : decode cX11_more 162 = .ok (.bipush 6, 2) := by decide +kernel
theorem dX11_more_164 : decode cX11_more 164 = .ok (.iload 4, 2) := by decide +kernel
theorem dX11_more_166 : decode cX11_more 166 = .ok (.imul, 1) := by decide +kernel
theorem dX11_more_167 : decode cX11_more 167 = .ok (.iload_n 2, 1) := by decide +kernel
theorem dX11_more_168 : decode cX11_more 168 = .ok (.iadd, 1) := by decide +kernel
theorem dX11_more_169 : decode cX11_more 169 = .ok (.iaload, 1) := by decide +kernel
theorem dX11_more_170 : decode cX11_more 170 = .ok (.iadd, 1) := by decide +kernel
theorem dX11_more_171 : decode cX11_more 171 = .ok (.ireturn, 1) := by decide +kernel
set_option maxRecDepth 20000 in
theorem ggX11_isMatter_X11_isTown : GoodIn wsX11_isMatter wsX11_isTown := goodIn_r _ [6, 7, 8, 9, 5, 10, 11, 12, 13, 14, 15, 16, 17, 18, 19, 20, 21, 22, 23, 24, 25, 26, 27, 28, 29, 30, 31, 32, 33, 34, 35, 36, 37, 38, 39, 40, 41, 42, 43, 44, 45, 46, 47, 48] (by decide +kernel) (by decide +kernel)
set_option maxRecDepth 20000 in
theorem gX11_isMatter_X11_isTown : GoodIn wsX11_isMatter (wsV RX11 102 RX11 yX11_isTown wsX11_isTown) := goodIn_app (goodIn_of _ (by decide +kernel)) ggX11_isMatter_X11_isTown
set_option maxRecDepth 20000 in
theorem ggX11_isMatter_X11_in : GoodIn wsX11_isMatter wsX11_in := goodIn_r _ [10] (by decide +kernel) (by decide +kernel)
set_option maxRecDepth 20000 in
theorem gX11_isMatter_X11_in : GoodIn wsX11_isMatter (va_wsS RX11 90 yX11_in wsX11_in) := goodIn_app (goodIn_of _ (by decide +kernel)) ggX11_isMatter_X11_in
theorem dX11_isMatter_0 : decode cX11_isMatter 0 = .ok (.aload_n 0, 1) := by decide +kernel
theorem dX11_isMatter_1 : decode cX11_isMatter 1 = .ok (.iload_n 1, 1) := by decide +kernel
theorem dX11_isMatter_2 : decode cX11_isMatter 2 = .ok (.invokevirtual 102, 3) := by decide +kernel
theorem dX11_isMatter_5 : decode cX11_isMatter 5 = .ok (.ifCond .eq 19, 3) := by decide +kernel
theorem dX11_isMatter_8 : decode cX11_isMatter 8 = .ok (.iload_n 2, 1) := by decide +kernel
theorem dX11_isMatter_9 : decode cX11_isMatter 9 = .ok (.i2l, 1) := by decide +kernel
theorem dX11_isMatter_10 : decode cX11_isMatter 10 = .ok (.lconst 0, 1) := by decide +kernel
theorem dX11_isMatter_11 : decode cX11_isMatter 11 = .ok (.ldc2_w 228, 3) := by decide +kernel
theorem dX11_isMatter_14 : decode cX11_isMatter 14 = .ok (.invokestatic 90, 3) := by decide +kernel
theorem dX11_isMatter_17 : decode cX11_isMatter 17 = .ok (.ifCond .eq 7, 3) := by decide +kernel
theorem dX11_isMatter_20 : decode cX11_isMatter 20 = .ok (.iconst 1, 1) := by decide +kernel
theorem dX11_isMatter_21 : decode cX11_isMatter 21 = .ok (.goto 4, 3) := by decide +kernel
theorem dX11_isMatter_24 : decode cX11_isMatter 24 = .ok (.iconst 0, 1) := by decide +kernel
theorem dX11_isMatter_25 : decode cX11_isMatter 25 = .ok (.ireturn, 1) := by decide +kernel
set_option maxRecDepth 20000 in
theorem ggX11_judged_X11_isMatter : GoodIn wsX11_judged wsX11_isMatter := goodIn_r _ [6, 7, 8, 9, 10, 5, 11, 12, 13, 14, 15, 47, 48, 49, 50, 51, 52, 53, 54, 55, 56, 57, 58, 59, 60, 61, 62, 63, 64, 65, 66, 67, 68, 69, 70, 71, 72, 73, 74, 75, 76, 77, 78, 79, 80, 81, 82, 83, 84] (by decide +kernel) (by decide +kernel)
set_option maxRecDepth 20000 in
theorem gX11_judged_X11_isMatter : GoodIn wsX11_judged (wsV RX11 230 RX11 yX11_isMatter wsX11_isMatter) := goodIn_app (goodIn_of _ (by decide +kernel)) ggX11_judged_X11_isMatter
set_option maxRecDepth 20000 in
theorem ggX11_judged_X11_isMinute : GoodIn wsX11_judged wsX11_isMinute := goodIn_r _ [18, 19, 13, 14, 5, 15] (by decide +kernel) (by decide +kernel)
set_option maxRecDepth 20000 in
theorem gX11_judged_X11_isMinute : GoodIn wsX11_judged (va_wsS RX11 136 yX11_isMinute wsX11_isMinute) := goodIn_app (goodIn_of _ (by decide +kernel)) ggX11_judged_X11_isMinute
set_option maxRecDepth 20000 in
theorem ggX11_judged_X11_more : GoodIn wsX11_judged wsX11_more := goodIn_r _ [23, 24, 25, 26, 27, 28, 29, 30, 31, 32, 5, 33, 34, 35, 36, 37, 38, 39, 40, 41, 42, 47, 48, 49, 50, 51, 52, 53, 54, 55, 56, 57, 58, 59, 60, 61, 62, 63, 64, 65, 66, 67, 68, 69, 70, 71, 72, 73, 74, 75, 76, 77, 78, 79, 80, 81, 82, 83, 84] (by decide +kernel) (by decide +kernel)
set_option maxRecDepth 20000 in
theorem gX11_judged_X11_more : GoodIn wsX11_judged (wsV RX11 234 RX11 yX11_more wsX11_more) := goodIn_app (goodIn_of _ (by decide +kernel)) ggX11_judged_X11_more
set_option maxRecDepth 20000 in
theorem ggX11_judged_X11_refuse : GoodIn wsX11_judged wsX11_refuse := goodIn_r _ [46, 1, 47, 48, 49, 50, 51, 52, 53, 54, 55, 56, 57, 58, 59, 60, 61, 62, 63, 64, 65, 66, 67, 68, 69, 70, 71, 72, 73, 74, 75, 76, 77, 78, 79, 80, 81, 82, 83, 84] (by decide +kernel) (by decide +kernel)
set_option maxRecDepth 20000 in
theorem gX11_judged_X11_refuse : GoodIn wsX11_judged (wsV RX11 143 RX11 yX11_refuse wsX11_refuse) := goodIn_app (goodIn_of _ (by decide +kernel)) ggX11_judged_X11_refuse
theorem dX11_judged_0 : decode cX11_judged 0 = .ok (.aload_n 0, 1) := by decide +kernel
theorem dX11_judged_1 : decode cX11_judged 1 = .ok (.iconst 0, 1) := by decide +kernel
theorem dX11_judged_2 : decode cX11_judged 2 = .ok (.putfield 83, 3) := by decide +kernel
theorem dX11_judged_5 : decode cX11_judged 5 = .ok (.aload_n 0, 1) := by decide +kernel
theorem dX11_judged_6 : decode cX11_judged 6 = .ok (.iload_n 1, 1) := by decide +kernel
theorem dX11_judged_7 : decode cX11_judged 7 = .ok (.iload_n 2, 1) := by decide +kernel
theorem dX11_judged_8 : decode cX11_judged 8 = .ok (.invokevirtual 230, 3) := by decide +kernel
theorem dX11_judged_11 : decode cX11_judged 11 = .ok (.ifCond .eq 26, 3) := by decide +kernel
theorem dX11_judged_14 : decode cX11_judged 14 = .ok (.iload_n 3, 1) := by decide +kernel
theorem dX11_judged_15 : decode cX11_judged 15 = .ok (.invokestatic 136, 3) := by decide +kernel
theorem dX11_judged_18 : decode cX11_judged 18 = .ok (.ifCond .eq 19, 3) := by decide +kernel
theorem dX11_judged_21 : decode cX11_judged 21 = .ok (.iload_n 3, 1) := by decide +kernel
theorem dX11_judged_22 : decode cX11_judged 22 = .ok (.aload_n 0, 1) := by decide +kernel
theorem dX11_judged_23 : decode cX11_judged 23 = .ok (.iload_n 1, 1) := by decide +kernel
theorem dX11_judged_24 : decode cX11_judged 24 = .ok (.iload_n 2, 1) := by decide +kernel
theorem dX11_judged_25 : decode cX11_judged 25 = .ok (.iload_n 3, 1) := by decide +kernel
theorem dX11_judged_26 : decode cX11_judged 26 = .ok (.sipush 1440, 3) := by decide +kernel
theorem dX11_judged_29 : decode cX11_judged 29 = .ok (.idiv, 1) := by decide +kernel
theorem dX11_judged_30 : decode cX11_judged 30 = .ok (.invokevirtual 234, 3) := by decide +kernel
theorem dX11_judged_33 : decode cX11_judged 33 = .ok (.iadd, 1) := by decide +kernel
theorem dX11_judged_34 : decode cX11_judged 34 = .ok (.goto 7, 3) := by decide +kernel
theorem dX11_judged_37 : decode cX11_judged 37 = .ok (.aload_n 0, 1) := by decide +kernel
theorem dX11_judged_38 : decode cX11_judged 38 = .ok (.invokevirtual 143, 3) := by decide +kernel
theorem dX11_judged_41 : decode cX11_judged 41 = .ok (.ireturn, 1) := by decide +kernel
set_option maxRecDepth 20000 in
theorem ggX11_late_X11_isMatter : GoodIn wsX11_late wsX11_isMatter := goodIn_r _ [7, 8, 9, 10, 11, 6, 12, 13, 14, 15, 16, 47, 48, 49, 50, 51, 52, 53, 54, 55, 56, 57, 58, 59, 60, 61, 62, 63, 64, 65, 66, 67, 68, 69, 70, 71, 72, 73, 74, 75, 76, 77, 78, 79, 80, 81, 82, 83, 84] (by decide +kernel) (by decide +kernel)
set_option maxRecDepth 20000 in
theorem gX11_late_X11_isMatter : GoodIn wsX11_late (wsV RX11 230 RX11 yX11_isMatter wsX11_isMatter) := goodIn_app (goodIn_of _ (by decide +kernel)) ggX11_late_X11_isMatter
set_option maxRecDepth 20000 in
theorem ggX11_late_X11_isDay : GoodIn wsX11_late wsX11_isDay := goodIn_r _ [19, 20, 14, 15, 6, 16] (by decide +kernel) (by decide +kernel)
set_option maxRecDepth 20000 in
theorem gX11_late_X11_isDay : GoodIn wsX11_late (va_wsS RX11 106 yX11_isDay wsX11_isDay) := goodIn_app (goodIn_of _ (by decide +kernel)) ggX11_late_X11_isDay
set_option maxRecDepth 20000 in
theorem ggX11_late_X11_in : GoodIn wsX11_late wsX11_in := goodIn_r _ [16] (by decide +kernel) (by decide +kernel)
set_option maxRecDepth 20000 in
theorem gX11_late_X11_in : GoodIn wsX11_late (va_wsS RX11 90 yX11_in wsX11_in) := goodIn_app (goodIn_of _ (by decide +kernel)) ggX11_late_X11_in
set_option maxRecDepth 20000 in
theorem ggX11_late_X11_more : GoodIn wsX11_late wsX11_more := goodIn_r _ [24, 25, 26, 27, 28, 29, 30, 31, 32, 33, 6, 34, 35, 36, 37, 38, 39, 40, 41, 42, 43, 47, 48, 49, 50, 51, 52, 53, 54, 55, 56, 57, 58, 59, 60, 61, 62, 63, 64, 65, 66, 67, 68, 69, 70, 71, 72, 73, 74, 75, 76, 77, 78, 79, 80, 81, 82, 83, 84] (by decide +kernel) (by decide +kernel)
set_option maxRecDepth 20000 in
theorem gX11_late_X11_more : GoodIn wsX11_late (wsV RX11 234 RX11 yX11_more wsX11_more) := goodIn_app (goodIn_of _ (by decide +kernel)) ggX11_late_X11_more
set_option maxRecDepth 20000 in
theorem ggX11_late_J9_floorMod_7cf53 : GoodIn wsX11_late wsJ9_floorMod_7cf53 := goodIn_r _ [46] (by decide +kernel) (by decide +kernel)
set_option maxRecDepth 20000 in
theorem gX11_late_J9_floorMod_7cf53 : GoodIn wsX11_late (va_wsS RX11 237 yJ9_floorMod_7cf53 wsJ9_floorMod_7cf53) := goodIn_app (goodIn_of _ (by decide +kernel)) ggX11_late_J9_floorMod_7cf53
theorem dX11_late_0 : decode cX11_late 0 = .ok (.aload_n 0, 1) := by decide +kernel
theorem dX11_late_1 : decode cX11_late 1 = .ok (.iconst 0, 1) := by decide +kernel
theorem dX11_late_2 : decode cX11_late 2 = .ok (.putfield 83, 3) := by decide +kernel
theorem dX11_late_5 : decode cX11_late 5 = .ok (.aload_n 0, 1) := by decide +kernel
theorem dX11_late_6 : decode cX11_late 6 = .ok (.iload_n 1, 1) := by decide +kernel
theorem dX11_late_7 : decode cX11_late 7 = .ok (.iload_n 2, 1) := by decide +kernel
theorem dX11_late_8 : decode cX11_late 8 = .ok (.invokevirtual 230, 3) := by decide +kernel
theorem dX11_late_11 : decode cX11_late 11 = .ok (.ifCond .eq 50, 3) := by decide +kernel
theorem dX11_late_14 : decode cX11_late 14 = .ok (.iload_n 3, 1) := by decide +kernel
theorem dX11_late_15 : decode cX11_late 15 = .ok (.invokestatic 106, 3) := by decide +kernel
theorem dX11_late_18 : decode cX11_late 18 = .ok (.ifCond .eq 43, 3) := by decide +kernel
theorem dX11_late_21 : decode cX11_late 21 = .ok (.iload 4, 2) := by decide +kernel
theorem dX11_late_23 : decode cX11_late 23 = .ok (.invokestatic 106, 3) := by decide +kernel
theorem dX11_late_26 : decode cX11_late 26 = .ok (.ifCond .eq 35, 3) := by decide +kernel
theorem dX11_late_29 : decode cX11_late 29 = .ok (.iload_n 3, 1) := by decide +kernel
theorem dX11_late_30 : decode cX11_late 30 = .ok (.iload 4, 2) := by decide +kernel
theorem dX11_late_32 : decode cX11_late 32 = .ok (.if_icmp .gt 29, 3) := by decide +kernel
theorem dX11_late_35 : decode cX11_late 35 = .ok (.iload 5, 2) := by decide +kernel
theorem dX11_late_37 : decode cX11_late 37 = .ok (.i2l, 1) := by decide +kernel
theorem dX11_late_38 : decode cX11_late 38 = .ok (.lconst 0, 1) := by decide +kernel
theorem dX11_late_39 : decode cX11_late 39 = .ok (.ldc2_w 155, 3) := by decide +kernel
theorem dX11_late_42 : decode cX11_late 42 = .ok (.invokestatic 90, 3) := by decide +kernel
theorem dX11_late_45 : decode cX11_late 45 = .ok (.ifCond .eq 16, 3) := by decide +kernel
theorem dX11_late_48 : decode cX11_late 48 = .ok (.iload 6, 2) := by decide +kernel
theorem dX11_late_50 : decode cX11_late 50 = .ok (.i2l, 1) := by decide +kernel
theorem dX11_late_51 : decode cX11_late 51 = .ok (.lconst 0, 1) := by decide +kernel
theorem dX11_late_52 : decode cX11_late 52 = .ok (.ldc2_w 155, 3) := by decide +kernel
theorem dX11_late_55 : decode cX11_late 55 = .ok (.invokestatic 90, 3) := by decide +kernel
theorem dX11_late_58 : decode cX11_late 58 = .ok (.ifCond .ne 5, 3) := by decide +kernel
theorem dX11_late_61 : decode cX11_late 61 = .ok (.iconst (-1), 1) := by decide +kernel
theorem dX11_late_62 : decode cX11_late 62 = .ok (.ireturn, 1) := by decide +kernel
theorem dX11_late_63 : decode cX11_late 63 = .ok (.iconst 0, 1) := by decide +kernel
theorem dX11_late_64 : decode cX11_late 64 = .ok (.istore 7, 2) := by decide +kernel
theorem dX11_late_66 : decode cX11_late 66 = .ok (.iload_n 3, 1) := by decide +kernel
theorem dX11_late_67 : decode cX11_late 67 = .ok (.istore 8, 2) := by decide +kernel
theorem dX11_late_69 : decode cX11_late 69 = .ok (.iload 8, 2) := by decide +kernel
theorem dX11_late_71 : decode cX11_late 71 = .ok (.iload 4, 2) := by decide +kernel
theorem dX11_late_73 : decode cX11_late 73 = .ok (.if_icmp .gt 41, 3) := by decide +kernel
theorem dX11_late_76 : decode cX11_late 76 = .ok (.iload 7, 2) := by decide +kernel
theorem dX11_late_78 : decode cX11_late 78 = .ok (.iload 5, 2) := by decide +kernel
theorem dX11_late_80 : decode cX11_late 80 = .ok (.aload_n 0, 1) := by decide +kernel
theorem dX11_late_81 : decode cX11_late 81 = .ok (.iload_n 1, 1) := by decide +kernel
theorem dX11_late_82 : decode cX11_late 82 = .ok (.iload_n 2, 1) := by decide +kernel
theorem dX11_late_83 : decode cX11_late 83 = .ok (.iload 8, 2) := by decide +kernel
theorem dX11_late_85 : decode cX11_late 85 = .ok (.invokevirtual 234, 3) := by decide +kernel
theorem dX11_late_88 : decode cX11_late 88 = .ok (.iadd, 1) := by decide +kernel
theorem dX11_late_89 : decode cX11_late 89 = .ok (.sipush 1440, 3) := by decide +kernel
theorem dX11_late_92 : decode cX11_late 92 = .ok (.invokestatic 237, 3) := by decide +kernel
theorem dX11_late_95 : decode cX11_late 95 = .ok (.iload 6, 2) := by decide +kernel
theorem dX11_late_97 : decode cX11_late 97 = .ok (.if_icmp .le 7, 3) := by decide +kernel
theorem dX11_late_100 : decode cX11_late 100 = .ok (.iconst 1, 1) := by decide +kernel
theorem dX11_late_101 : decode cX11_late 101 = .ok (.goto 4, 3) := by decide +kernel
theorem dX11_late_104 : decode cX11_late 104 = .ok (.iconst 0, 1) := by decide +kernel
theorem dX11_late_105 : decode cX11_late 105 = .ok (.iadd, 1) := by decide +kernel
theorem dX11_late_106 : decode cX11_late 106 = .ok (.istore 7, 2) := by decide +kernel
theorem dX11_late_108 : decode cX11_late 108 = .ok (.iinc 8 1, 3) := by decide +kernel
theorem dX11_late_111 : decode cX11_late 111 = .ok (.goto (-42), 3) := by decide +kernel
theorem dX11_late_114 : decode cX11_late 114 = .ok (.iload 7, 2) := by decide +kernel
theorem dX11_late_116 : decode cX11_late 116 = .ok (.ireturn, 1) := by decide +kernel
set_option maxRecDepth 20000 in
theorem ggX11_tower_X11_isTown : GoodIn wsX11_tower wsX11_isTown := goodIn_r _ [12, 13, 14, 15, 11, 16, 21, 22, 23, 24, 25, 26, 27, 28, 29, 30, 31, 32, 33, 34, 35, 36, 37, 38, 39, 40, 41, 42, 43, 44, 45, 46, 47, 48, 49, 50, 51, 52, 53, 54, 55, 56, 57, 58] (by decide +kernel) (by decide +kernel)
set_option maxRecDepth 20000 in
theorem gX11_tower_X11_isTown : GoodIn wsX11_tower (wsV RX11 102 RX11 yX11_isTown wsX11_isTown) := goodIn_app (goodIn_of _ (by decide +kernel)) ggX11_tower_X11_isTown
set_option maxRecDepth 20000 in
theorem ggX11_tower_X11_isMinute : GoodIn wsX11_tower wsX11_isMinute := goodIn_r _ [19, 20, 14, 15, 11, 16] (by decide +kernel) (by decide +kernel)
set_option maxRecDepth 20000 in
theorem gX11_tower_X11_isMinute : GoodIn wsX11_tower (va_wsS RX11 136 yX11_isMinute wsX11_isMinute) := goodIn_app (goodIn_of _ (by decide +kernel)) ggX11_tower_X11_isMinute
set_option maxRecDepth 20000 in
theorem ggX11_tower_X11_in : GoodIn wsX11_tower wsX11_in := goodIn_r _ [16] (by decide +kernel) (by decide +kernel)
set_option maxRecDepth 20000 in
theorem gX11_tower_X11_in : GoodIn wsX11_tower (va_wsS RX11 90 yX11_in wsX11_in) := goodIn_app (goodIn_of _ (by decide +kernel)) ggX11_tower_X11_in
theorem dX11_tower_0 : decode cX11_tower 0 = .ok (.aload_n 0, 1) := by decide +kernel
theorem dX11_tower_1 : decode cX11_tower 1 = .ok (.iconst 0, 1) := by decide +kernel
theorem dX11_tower_2 : decode cX11_tower 2 = .ok (.putfield 83, 3) := by decide +kernel
theorem dX11_tower_5 : decode cX11_tower 5 = .ok (.aload_n 0, 1) := by decide +kernel
theorem dX11_tower_6 : decode cX11_tower 6 = .ok (.iload_n 1, 1) := by decide +kernel
theorem dX11_tower_7 : decode cX11_tower 7 = .ok (.invokevirtual 102, 3) := by decide +kernel
theorem dX11_tower_10 : decode cX11_tower 10 = .ok (.ifCond .eq 33, 3) := by decide +kernel
theorem dX11_tower_13 : decode cX11_tower 13 = .ok (.iload_n 2, 1) := by decide +kernel
theorem dX11_tower_14 : decode cX11_tower 14 = .ok (.invokestatic 136, 3) := by decide +kernel
theorem dX11_tower_17 : decode cX11_tower 17 = .ok (.ifCond .eq 26, 3) := by decide +kernel
theorem dX11_tower_20 : decode cX11_tower 20 = .ok (.iload_n 3, 1) := by decide +kernel
theorem dX11_tower_21 : decode cX11_tower 21 = .ok (.i2l, 1) := by decide +kernel
theorem dX11_tower_22 : decode cX11_tower 22 = .ok (.ldc2_w 240, 3) := by decide +kernel
theorem dX11_tower_25 : decode cX11_tower 25 = .ok (.ldc2_w 153, 3) := by decide +kernel
theorem dX11_tower_28 : decode cX11_tower 28 = .ok (.invokestatic 90, 3) := by decide +kernel
theorem dX11_tower_31 : decode cX11_tower 31 = .ok (.ifCond .eq 12, 3) := by decide +kernel
theorem dX11_tower_34 : decode cX11_tower 34 = .ok (.aload_n 0, 1) := by decide +kernel
theorem dX11_tower_35 : decode cX11_tower 35 = .ok (.getfield 127, 3) := by decide +kernel
theorem dX11_tower_38 : decode cX11_tower 38 = .ok (.bipush 7, 2) := by decide +kernel
theorem dX11_tower_40 : decode cX11_tower 40 = .ok (.if_icmp .ne 5, 3) := by decide +kernel
theorem dX11_tower_43 : decode cX11_tower 43 = .ok (.iconst (-1), 1) := by decide +kernel
theorem dX11_tower_44 : decode cX11_tower 44 = .ok (.ireturn, 1) := by decide +kernel
theorem dX11_tower_45 : decode cX11_tower 45 = .ok (.aload_n 0, 1) := by decide +kernel
theorem dX11_tower_46 : decode cX11_tower 46 = .ok (.getfield 68, 3) := by decide +kernel
theorem dX11_tower_49 : decode cX11_tower 49 = .ok (.aload_n 0, 1) := by decide +kernel
theorem dX11_tower_50 : decode cX11_tower 50 = .ok (.getfield 127, 3) := by decide +kernel
theorem dX11_tower_53 : decode cX11_tower 53 = .ok (.iload_n 1, 1) := by decide +kernel
theorem dX11_tower_54 : decode cX11_tower 54 = .ok (.iastore, 1) := by decide +kernel
theorem dX11_tower_55 : decode cX11_tower 55 = .ok (.aload_n 0, 1) := by decide +kernel
theorem dX11_tower_56 : decode cX11_tower 56 = .ok (.getfield 71, 3) := by decide +kernel
theorem dX11_tower_59 : decode cX11_tower 59 = .ok (.aload_n 0, 1) := by decide +kernel
theorem dX11_tower_60 : decode cX11_tower 60 = .ok (.getfield 127, 3) := by decide +kernel
theorem dX11_tower_63 : decode cX11_tower 63 = .ok (.iload_n 2, 1) := by decide +kernel
theorem dX11_tower_64 : decode cX11_tower 64 = .ok (.iastore, 1) := by decide +kernel
theorem dX11_tower_65 : decode cX11_tower 65 = .ok (.aload_n 0, 1) := by decide +kernel
theorem dX11_tower_66 : decode cX11_tower 66 = .ok (.getfield 74, 3) := by decide +kernel
theorem dX11_tower_69 : decode cX11_tower 69 = .ok (.aload_n 0, 1) := by decide +kernel
theorem dX11_tower_70 : decode cX11_tower 70 = .ok (.getfield 127, 3) := by decide +kernel
theorem dX11_tower_73 : decode cX11_tower 73 = .ok (.iload_n 3, 1) := by decide +kernel
theorem dX11_tower_74 : decode cX11_tower 74 = .ok (.iastore, 1) := by decide +kernel
theorem dX11_tower_75 : decode cX11_tower 75 = .ok (.aload_n 0, 1) := by decide +kernel
theorem dX11_tower_76 : decode cX11_tower 76 = .ok (.dup, 1) := by decide +kernel
theorem dX11_tower_77 : decode cX11_tower 77 = .ok (.getfield 127, 3) := by decide +kernel
theorem dX11_tower_80 : decode cX11_tower 80 = .ok (.iconst 1, 1) := by decide +kernel
theorem dX11_tower_81 : decode cX11_tower 81 = .ok (.iadd, 1) := by decide +kernel
theorem dX11_tower_82 : decode cX11_tower 82 = .ok (.putfield 127, 3) := by decide +kernel
theorem dX11_tower_85 : decode cX11_tower 85 = .ok (.aload_n 0, 1) := by decide +kernel
theorem dX11_tower_86 : decode cX11_tower 86 = .ok (.getfield 127, 3) := by decide +kernel
theorem dX11_tower_89 : decode cX11_tower 89 = .ok (.iconst 1, 1) := by decide +kernel
theorem dX11_tower_90 : decode cX11_tower 90 = .ok (.isub, 1) := by decide +kernel
theorem dX11_tower_91 : decode cX11_tower 91 = .ok (.ireturn, 1) := by decide +kernel
theorem dX11_errorOf_0 : decode cX11_errorOf 0 = .ok (.aload_n 0, 1) := by decide +kernel
theorem dX11_errorOf_1 : decode cX11_errorOf 1 = .ok (.getfield 74, 3) := by decide +kernel
theorem dX11_errorOf_4 : decode cX11_errorOf 4 = .ok (.iload_n 1, 1) := by decide +kernel
theorem dX11_errorOf_5 : decode cX11_errorOf 5 = .ok (.iaload, 1) := by decide +kernel
theorem dX11_errorOf_6 : decode cX11_errorOf 6 = .ok (.i2l, 1) := by decide +kernel
theorem dX11_errorOf_7 : decode cX11_errorOf 7 = .ok (.iload_n 2, 1) := by decide +kernel
theorem dX11_errorOf_8 : decode cX11_errorOf 8 = .ok (.aload_n 0, 1) := by decide +kernel
theorem dX11_errorOf_9 : decode cX11_errorOf 9 = .ok (.getfield 71, 3) := by decide +kernel
theorem dX11_errorOf_12 : decode cX11_errorOf 12 = .ok (.iload_n 1, 1) := by decide +kernel
theorem dX11_errorOf_13 : decode cX11_errorOf 13 = .ok (.iaload, 1) := by decide +kernel
theorem dX11_errorOf_14 : decode cX11_errorOf 14 = .ok (.isub, 1) := by decide +kernel
theorem dX11_errorOf_15 : decode cX11_errorOf 15 = .ok (.i2l, 1) := by decide +kernel
theorem dX11_errorOf_16 : decode cX11_errorOf 16 = .ok (.lmul, 1) := by decide +kernel
theorem dX11_errorOf_17 : decode cX11_errorOf 17 = .ok (.ldc2_w 147, 3) := by decide +kernel
theorem dX11_errorOf_20 : decode cX11_errorOf 20 = .ok (.ldiv, 1) := by decide +kernel
theorem dX11_errorOf_21 : decode cX11_errorOf 21 = .ok (.l2i, 1) := by decide +kernel
theorem dX11_errorOf_22 : decode cX11_errorOf 22 = .ok (.ireturn, 1) := by decide +kernel
set_option maxRecDepth 20000 in
theorem ggX11_isAsked_X11_in : GoodIn wsX11_isAsked wsX11_in := goodIn_r _ [6] (by decide +kernel) (by decide +kernel)
set_option maxRecDepth 20000 in
theorem gX11_isAsked_X11_in : GoodIn wsX11_isAsked (va_wsS RX11 90 yX11_in wsX11_in) := goodIn_app (goodIn_of _ (by decide +kernel)) ggX11_isAsked_X11_in
set_option maxRecDepth 20000 in
theorem ggX11_isAsked_X11_isMinute : GoodIn wsX11_isAsked wsX11_isMinute := goodIn_r _ [9, 10, 3, 4, 5, 6] (by decide +kernel) (by decide +kernel)
set_option maxRecDepth 20000 in
theorem gX11_isAsked_X11_isMinute : GoodIn wsX11_isAsked (va_wsS RX11 136 yX11_isMinute wsX11_isMinute) := goodIn_app (goodIn_of _ (by decide +kernel)) ggX11_isAsked_X11_isMinute
theorem dX11_isAsked_0 : decode cX11_isAsked 0 = .ok (.iload_n 1, 1) := by decide +kernel
theorem dX11_isAsked_1 : decode cX11_isAsked 1 = .ok (.i2l, 1) := by decide +kernel
theorem dX11_isAsked_2 : decode cX11_isAsked 2 = .ok (.lconst 0, 1) := by decide +kernel
theorem dX11_isAsked_3 : decode cX11_isAsked 3 = .ok (.aload_n 0, 1) := by decide +kernel
theorem dX11_isAsked_4 : decode cX11_isAsked 4 = .ok (.getfield 127, 3) := by decide +kernel
theorem dX11_isAsked_7 : decode cX11_isAsked 7 = .ok (.iconst 1, 1) := by decide +kernel
theorem dX11_isAsked_8 : decode cX11_isAsked 8 = .ok (.isub, 1) := by decide +kernel
theorem dX11_isAsked_9 : decode cX11_isAsked 9 = .ok (.i2l, 1) := by decide +kernel
theorem dX11_isAsked_10 : decode cX11_isAsked 10 = .ok (.invokestatic 90, 3) := by decide +kernel
theorem dX11_isAsked_13 : decode cX11_isAsked 13 = .ok (.ifCond .eq 24, 3) := by decide +kernel
theorem dX11_isAsked_16 : decode cX11_isAsked 16 = .ok (.iload_n 2, 1) := by decide +kernel
theorem dX11_isAsked_17 : decode cX11_isAsked 17 = .ok (.invokestatic 136, 3) := by decide +kernel
theorem dX11_isAsked_20 : decode cX11_isAsked 20 = .ok (.ifCond .eq 17, 3) := by decide +kernel
theorem dX11_isAsked_23 : decode cX11_isAsked 23 = .ok (.iload_n 2, 1) := by decide +kernel
theorem dX11_isAsked_24 : decode cX11_isAsked 24 = .ok (.aload_n 0, 1) := by decide +kernel
theorem dX11_isAsked_25 : decode cX11_isAsked 25 = .ok (.getfield 71, 3) := by decide +kernel
theorem dX11_isAsked_28 : decode cX11_isAsked 28 = .ok (.iload_n 1, 1) := by decide +kernel
theorem dX11_isAsked_29 : decode cX11_isAsked 29 = .ok (.iaload, 1) := by decide +kernel
theorem dX11_isAsked_30 : decode cX11_isAsked 30 = .ok (.if_icmp .lt 7, 3) := by decide +kernel
theorem dX11_isAsked_33 : decode cX11_isAsked 33 = .ok (.iconst 1, 1) := by decide +kernel
theorem dX11_isAsked_34 : decode cX11_isAsked 34 = .ok (.goto 4, 3) := by decide +kernel
theorem dX11_isAsked_37 : decode cX11_isAsked 37 = .ok (.iconst 0, 1) := by decide +kernel
theorem dX11_isAsked_38 : decode cX11_isAsked 38 = .ok (.ireturn, 1) := by decide +kernel
set_option maxRecDepth 20000 in
theorem ggX11_error_X11_isAsked : GoodIn wsX11_error wsX11_isAsked := goodIn_r _ [6, 7, 8, 9, 10, 5, 11, 12, 13, 14, 15, 26, 27, 28, 29, 30, 31, 32, 33, 34, 35, 36, 37, 38, 39, 40, 41, 42, 43, 44, 45, 46, 47, 48, 49, 50, 51, 52, 53, 54, 55, 56, 57, 58, 59, 60, 61, 62, 63] (by decide +kernel) (by decide +kernel)
set_option maxRecDepth 20000 in
theorem gX11_error_X11_isAsked : GoodIn wsX11_error (wsV RX11 242 RX11 yX11_isAsked wsX11_isAsked) := goodIn_app (goodIn_of _ (by decide +kernel)) ggX11_error_X11_isAsked
set_option maxRecDepth 20000 in
theorem ggX11_error_X11_errorOf : GoodIn wsX11_error wsX11_errorOf := goodIn_r _ [19, 20, 8, 21, 26, 27, 28, 29, 30, 31, 32, 33, 34, 35, 36, 37, 38, 39, 40, 41, 42, 43, 44, 45, 46, 47, 48, 49, 50, 51, 52, 53, 54, 55, 56, 57, 58, 59, 60, 61, 62, 63] (by decide +kernel) (by decide +kernel)
set_option maxRecDepth 20000 in
theorem gX11_error_X11_errorOf : GoodIn wsX11_error (wsV RX11 245 RX11 yX11_errorOf wsX11_errorOf) := goodIn_app (goodIn_of _ (by decide +kernel)) ggX11_error_X11_errorOf
set_option maxRecDepth 20000 in
theorem ggX11_error_X11_refuse : GoodIn wsX11_error wsX11_refuse := goodIn_r _ [25, 1, 26, 27, 28, 29, 30, 31, 32, 33, 34, 35, 36, 37, 38, 39, 40, 41, 42, 43, 44, 45, 46, 47, 48, 49, 50, 51, 52, 53, 54, 55, 56, 57, 58, 59, 60, 61, 62, 63] (by decide +kernel) (by decide +kernel)
set_option maxRecDepth 20000 in
theorem gX11_error_X11_refuse : GoodIn wsX11_error (wsV RX11 143 RX11 yX11_refuse wsX11_refuse) := goodIn_app (goodIn_of _ (by decide +kernel)) ggX11_error_X11_refuse
theorem dX11_error_0 : decode cX11_error 0 = .ok (.aload_n 0, 1) := by decide +kernel
theorem dX11_error_1 : decode cX11_error 1 = .ok (.iconst 0, 1) := by decide +kernel
theorem dX11_error_2 : decode cX11_error 2 = .ok (.putfield 83, 3) := by decide +kernel
theorem dX11_error_5 : decode cX11_error 5 = .ok (.aload_n 0, 1) := by decide +kernel
theorem dX11_error_6 : decode cX11_error 6 = .ok (.iload_n 1, 1) := by decide +kernel
theorem dX11_error_7 : decode cX11_error 7 = .ok (.iload_n 2, 1) := by decide +kernel
theorem dX11_error_8 : decode cX11_error 8 = .ok (.invokevirtual 242, 3) := by decide +kernel
theorem dX11_error_11 : decode cX11_error 11 = .ok (.ifCond .eq 12, 3) := by decide +kernel
theorem dX11_error_14 : decode cX11_error 14 = .ok (.aload_n 0, 1) := by decide +kernel
theorem dX11_error_15 : decode cX11_error 15 = .ok (.iload_n 1, 1) := by decide +kernel
theorem dX11_error_16 : decode cX11_error 16 = .ok (.iload_n 2, 1) := by decide +kernel
theorem dX11_error_17 : decode cX11_error 17 = .ok (.invokevirtual 245, 3) := by decide +kernel
theorem dX11_error_20 : decode cX11_error 20 = .ok (.goto 7, 3) := by decide +kernel
theorem dX11_error_23 : decode cX11_error 23 = .ok (.aload_n 0, 1) := by decide +kernel
theorem dX11_error_24 : decode cX11_error 24 = .ok (.invokevirtual 143, 3) := by decide +kernel
theorem dX11_error_27 : decode cX11_error 27 = .ok (.ireturn, 1) := by decide +kernel
set_option maxRecDepth 20000 in
theorem ggX11_set_X11_isAsked : GoodIn wsX11_set wsX11_isAsked := goodIn_r _ [7, 8, 2, 9, 10, 6, 11, 12, 13, 14, 15, 26, 27, 28, 29, 30, 31, 32, 33, 34, 35, 36, 37, 38, 39, 40, 41, 42, 43, 44, 45, 46, 47, 48, 49, 50, 51, 52, 53, 54, 55, 56, 57, 58, 59, 60, 61, 62, 63] (by decide +kernel) (by decide +kernel)
set_option maxRecDepth 20000 in
theorem gX11_set_X11_isAsked : GoodIn wsX11_set (wsV RX11 242 RX11 yX11_isAsked wsX11_isAsked) := goodIn_app (goodIn_of _ (by decide +kernel)) ggX11_set_X11_isAsked
set_option maxRecDepth 20000 in
theorem ggX11_set_X11_refuse : GoodIn wsX11_set wsX11_refuse := goodIn_r _ [19, 1, 26, 27, 28, 29, 30, 31, 32, 33, 34, 35, 36, 37, 38, 39, 40, 41, 42, 43, 44, 45, 46, 47, 48, 49, 50, 51, 52, 53, 54, 55, 56, 57, 58, 59, 60, 61, 62, 63] (by decide +kernel) (by decide +kernel)
set_option maxRecDepth 20000 in
theorem gX11_set_X11_refuse : GoodIn wsX11_set (wsV RX11 143 RX11 yX11_refuse wsX11_refuse) := goodIn_app (goodIn_of _ (by decide +kernel)) ggX11_set_X11_refuse
set_option maxRecDepth 20000 in
theorem ggX11_set_X11_errorOf : GoodIn wsX11_set wsX11_errorOf := goodIn_r _ [23, 24, 2, 25, 26, 27, 28, 29, 30, 31, 32, 33, 34, 35, 36, 37, 38, 39, 40, 41, 42, 43, 44, 45, 46, 47, 48, 49, 50, 51, 52, 53, 54, 55, 56, 57, 58, 59, 60, 61, 62, 63] (by decide +kernel) (by decide +kernel)
set_option maxRecDepth 20000 in
theorem gX11_set_X11_errorOf : GoodIn wsX11_set (wsV RX11 245 RX11 yX11_errorOf wsX11_errorOf) := goodIn_app (goodIn_of _ (by decide +kernel)) ggX11_set_X11_errorOf
theorem dX11_set_0 : decode cX11_set 0 = .ok (.aload_n 0, 1) := by decide +kernel
theorem dX11_set_1 : decode cX11_set 1 = .ok (.iconst 0, 1) := by decide +kernel
theorem dX11_set_2 : decode cX11_set 2 = .ok (.putfield 83, 3) := by decide +kernel
theorem dX11_set_5 : decode cX11_set 5 = .ok (.aload_n 0, 1) := by decide +kernel
theorem dX11_set_6 : decode cX11_set 6 = .ok (.iload_n 1, 1) := by decide +kernel
theorem dX11_set_7 : decode cX11_set 7 = .ok (.iload_n 2, 1) := by decide +kernel
theorem dX11_set_8 : decode cX11_set 8 = .ok (.invokevirtual 242, 3) := by decide +kernel
theorem dX11_set_11 : decode cX11_set 11 = .ok (.ifCond .ne 8, 3) := by decide +kernel
theorem dX11_set_14 : decode cX11_set 14 = .ok (.aload_n 0, 1) := by decide +kernel
theorem dX11_set_15 : decode cX11_set 15 = .ok (.invokevirtual 143, 3) := by decide +kernel
theorem dX11_set_18 : decode cX11_set 18 = .ok (.ireturn, 1) := by decide +kernel
theorem dX11_set_19 : decode cX11_set 19 = .ok (.aload_n 0, 1) := by decide +kernel
theorem dX11_set_20 : decode cX11_set 20 = .ok (.iload_n 1, 1) := by decide +kernel
theorem dX11_set_21 : decode cX11_set 21 = .ok (.iload_n 2, 1) := by decide +kernel
theorem dX11_set_22 : decode cX11_set 22 = .ok (.invokevirtual 245, 3) := by decide +kernel
theorem dX11_set_25 : decode cX11_set 25 = .ok (.istore_n 3, 1) := by decide +kernel
theorem dX11_set_26 : decode cX11_set 26 = .ok (.aload_n 0, 1) := by decide +kernel
theorem dX11_set_27 : decode cX11_set 27 = .ok (.getfield 71, 3) := by decide +kernel
theorem dX11_set_30 : decode cX11_set 30 = .ok (.iload_n 1, 1) := by decide +kernel
theorem dX11_set_31 : decode cX11_set 31 = .ok (.iload_n 2, 1) := by decide +kernel
theorem dX11_set_32 : decode cX11_set 32 = .ok (.iastore, 1) := by decide +kernel
theorem dX11_set_33 : decode cX11_set 33 = .ok (.iload_n 3, 1) := by decide +kernel
theorem dX11_set_34 : decode cX11_set 34 = .ok (.ireturn, 1) := by decide +kernel
set_option maxRecDepth 20000 in
theorem ggX11_goes_X11_errorOf : GoodIn wsX11_goes wsX11_errorOf := goodIn_r _ [19, 20, 21, 22, 26, 27, 28, 29, 30, 31, 32, 33, 34, 35, 36, 37, 38, 39, 40, 41, 42, 43, 44, 45, 46, 47, 48, 49, 50, 51, 52, 53, 54, 55, 56, 57, 58, 59, 60, 61, 62, 63] (by decide +kernel) (by decide +kernel)
set_option maxRecDepth 20000 in
theorem gX11_goes_X11_errorOf : GoodIn wsX11_goes (wsV RX11 245 RX11 yX11_errorOf wsX11_errorOf) := goodIn_app (goodIn_of _ (by decide +kernel)) ggX11_goes_X11_errorOf
set_option maxRecDepth 20000 in
theorem ggX11_goes_X11_goes : GoodIn wsX11_goes wsX11_goes := goodIn_r _ [0, 1, 2, 3, 4, 5, 6, 7, 8, 9, 10, 11, 12, 13, 14, 15, 16, 17, 18, 19, 20, 21, 22, 23, 24, 25, 26, 27, 28, 29, 30, 31, 32, 33, 34, 35, 36, 37, 38, 39, 40, 41, 42, 43, 44, 45, 46, 47, 48, 49, 50, 51, 52, 53, 54, 55, 56, 57, 58, 59, 60, 61, 62, 63] (by decide +kernel) (by decide +kernel)
set_option maxRecDepth 20000 in
theorem gX11_goes_X11_goes : GoodIn wsX11_goes (wsV RX11 257 RX11 yX11_goes wsX11_goes) := goodIn_app (goodIn_of _ (by decide +kernel)) ggX11_goes_X11_goes
theorem dX11_goes_0 : decode cX11_goes 0 = .ok (.iload 5, 2) := by decide +kernel
theorem dX11_goes_2 : decode cX11_goes 2 = .ok (.aload_n 0, 1) := by decide +kernel
theorem dX11_goes_3 : decode cX11_goes 3 = .ok (.getfield 248, 3) := by decide +kernel
theorem dX11_goes_6 : decode cX11_goes 6 = .ok (.if_icmp .le 4, 3) := by decide +kernel
theorem dX11_goes_9 : decode cX11_goes 9 = .ok (.return_, 1) := by decide +kernel
theorem dX11_goes_10 : decode cX11_goes 10 = .ok (.iload_n 1, 1) := by decide +kernel
theorem dX11_goes_11 : decode cX11_goes 11 = .ok (.aload_n 0, 1) := by decide +kernel
theorem dX11_goes_12 : decode cX11_goes 12 = .ok (.getfield 127, 3) := by decide +kernel
theorem dX11_goes_15 : decode cX11_goes 15 = .ok (.if_icmp .ne 66, 3) := by decide +kernel
theorem dX11_goes_18 : decode cX11_goes 18 = .ok (.iload 5, 2) := by decide +kernel
theorem dX11_goes_20 : decode cX11_goes 20 = .ok (.aload_n 0, 1) := by decide +kernel
theorem dX11_goes_21 : decode cX11_goes 21 = .ok (.getfield 248, 3) := by decide +kernel
theorem dX11_goes_24 : decode cX11_goes 24 = .ok (.if_icmp .lt 12, 3) := by decide +kernel
theorem dX11_goes_27 : decode cX11_goes 27 = .ok (.iload 4, 2) := by decide +kernel
theorem dX11_goes_29 : decode cX11_goes 29 = .ok (.aload_n 0, 1) := by decide +kernel
theorem dX11_goes_30 : decode cX11_goes 30 = .ok (.getfield 251, 3) := by decide +kernel
theorem dX11_goes_33 : decode cX11_goes 33 = .ok (.if_icmp .ge 47, 3) := by decide +kernel
theorem dX11_goes_36 : decode cX11_goes 36 = .ok (.aload_n 0, 1) := by decide +kernel
theorem dX11_goes_37 : decode cX11_goes 37 = .ok (.iload 5, 2) := by decide +kernel
theorem dX11_goes_39 : decode cX11_goes 39 = .ok (.putfield 248, 3) := by decide +kernel
theorem dX11_goes_42 : decode cX11_goes 42 = .ok (.aload_n 0, 1) := by decide +kernel
theorem dX11_goes_43 : decode cX11_goes 43 = .ok (.iload 4, 2) := by decide +kernel
theorem dX11_goes_45 : decode cX11_goes 45 = .ok (.putfield 251, 3) := by decide +kernel
theorem dX11_goes_48 : decode cX11_goes 48 = .ok (.iconst 0, 1) := by decide +kernel
theorem dX11_goes_49 : decode cX11_goes 49 = .ok (.istore 6, 2) := by decide +kernel
theorem dX11_goes_51 : decode cX11_goes 51 = .ok (.iload 6, 2) := by decide +kernel
theorem dX11_goes_53 : decode cX11_goes 53 = .ok (.aload_n 0, 1) := by decide +kernel
theorem dX11_goes_54 : decode cX11_goes 54 = .ok (.getfield 127, 3) := by decide +kernel
theorem dX11_goes_57 : decode cX11_goes 57 = .ok (.if_icmp .ge 23, 3) := by decide +kernel
theorem dX11_goes_60 : decode cX11_goes 60 = .ok (.aload_n 0, 1) := by decide +kernel
theorem dX11_goes_61 : decode cX11_goes 61 = .ok (.getfield 80, 3) := by decide +kernel
theorem dX11_goes_64 : decode cX11_goes 64 = .ok (.iload 6, 2) := by decide +kernel
theorem dX11_goes_66 : decode cX11_goes 66 = .ok (.aload_n 0, 1) := by decide +kernel
theorem dX11_goes_67 : decode cX11_goes 67 = .ok (.getfield 77, 3) := by decide +kernel
theorem dX11_goes_70 : decode cX11_goes 70 = .ok (.iload 6, 2) := by decide +kernel
theorem dX11_goes_72 : decode cX11_goes 72 = .ok (.iaload, 1) := by decide +kernel
theorem dX11_goes_73 : decode cX11_goes 73 = .ok (.iastore, 1) := by decide +kernel
theorem dX11_goes_74 : decode cX11_goes 74 = .ok (.iinc 6 1, 3) := by decide +kernel
theorem dX11_goes_77 : decode cX11_goes 77 = .ok (.goto (-26), 3) := by decide +kernel
theorem dX11_goes_80 : decode cX11_goes 80 = .ok (.return_, 1) := by decide +kernel
theorem dX11_goes_81 : decode cX11_goes 81 = .ok (.iconst 0, 1) := by decide +kernel
theorem dX11_goes_82 : decode cX11_goes 82 = .ok (.istore 6, 2) := by decide +kernel
theorem dX11_goes_84 : decode cX11_goes 84 = .ok (.iload 6, 2) := by decide +kernel
theorem dX11_goes_86 : decode cX11_goes 86 = .ok (.aload_n 0, 1) := by decide +kernel
theorem dX11_goes_87 : decode cX11_goes 87 = .ok (.getfield 127, 3) := by decide +kernel
theorem dX11_goes_90 : decode cX11_goes 90 = .ok (.if_icmp .ge 97, 3) := by decide +kernel
theorem dX11_goes_93 : decode cX11_goes 93 = .ok (.iload_n 2, 1) := by decide +kernel
theorem dX11_goes_94 : decode cX11_goes 94 = .ok (.iload 6, 2) := by decide +kernel
theorem dX11_goes_96 : decode cX11_goes 96 = .ok (.ishr, 1) := by decide +kernel
theorem dX11_goes_97 : decode cX11_goes 97 = .ok (.iconst 1, 1) := by decide +kernel
theorem dX11_goes_98 : decode cX11_goes 98 = .ok (.iand, 1) := by decide +kernel
theorem dX11_goes_99 : decode cX11_goes 99 = .ok (.ifCond .ne 82, 3) := by decide +kernel
theorem dX11_goes_102 : decode cX11_goes 102 = .ok (.iload 4, 2) := by decide +kernel
theorem dX11_goes_104 : decode cX11_goes 104 = .ok (.bipush 10, 2) := by decide +kernel
theorem dX11_goes_106 : decode cX11_goes 106 = .ok (.aload_n 0, 1) := by decide +kernel
theorem dX11_goes_107 : decode cX11_goes 107 = .ok (.getfield 9, 3) := by decide +kernel
theorem dX11_goes_110 : decode cX11_goes 110 = .ok (.iload_n 3, 1) := by decide +kernel
theorem dX11_goes_111 : decode cX11_goes 111 = .ok (.iaload, 1) := by decide +kernel
theorem dX11_goes_112 : decode cX11_goes 112 = .ok (.aload_n 0, 1) := by decide +kernel
theorem dX11_goes_113 : decode cX11_goes 113 = .ok (.getfield 9, 3) := by decide +kernel
theorem dX11_goes_116 : decode cX11_goes 116 = .ok (.aload_n 0, 1) := by decide +kernel
theorem dX11_goes_117 : decode cX11_goes 117 = .ok (.getfield 68, 3) := by decide +kernel
theorem dX11_goes_120 : decode cX11_goes 120 = .ok (.iload 6, 2) := by decide +kernel
theorem dX11_goes_122 : decode cX11_goes 122 = .ok (.iaload, 1) := by decide +kernel
theorem dX11_goes_123 : decode cX11_goes 123 = .ok (.iaload, 1) := by decide +kernel
theorem dX11_goes_124 : decode cX11_goes 124 = .ok (.isub, 1) := by decide +kernel
theorem dX11_goes_125 : decode cX11_goes 125 = .ok (.invokestatic 254, 3) := by decide +kernel
theorem dX11_goes_128 : decode cX11_goes 128 = .ok (.imul, 1) := by decide +kernel
theorem dX11_goes_129 : decode cX11_goes 129 = .ok (.iadd, 1) := by decide +kernel
theorem dX11_goes_130 : decode cX11_goes 130 = .ok (.istore 7, 2) := by decide +kernel
theorem dX11_goes_132 : decode cX11_goes 132 = .ok (.aload_n 0, 1) := by decide +kernel
theorem dX11_goes_133 : decode cX11_goes 133 = .ok (.getfield 77, 3) := by decide +kernel
theorem dX11_goes_136 : decode cX11_goes 136 = .ok (.iload_n 1, 1) := by decide +kernel
theorem dX11_goes_137 : decode cX11_goes 137 = .ok (.iload 6, 2) := by decide +kernel
theorem dX11_goes_139 : decode cX11_goes 139 = .ok (.iastore, 1) := by decide +kernel
theorem dX11_goes_140 : decode cX11_goes 140 = .ok (.aload_n 0, 1) := by decide +kernel
theorem dX11_goes_141 : decode cX11_goes 141 = .ok (.iload_n 1, 1) := by decide +kernel
theorem dX11_goes_142 : decode cX11_goes 142 = .ok (.iconst 1, 1) := by decide +kernel
theorem dX11_goes_143 : decode cX11_goes 143 = .ok (.iadd, 1) := by decide +kernel
theorem dX11_goes_144 : decode cX11_goes 144 = .ok (.iload_n 2, 1) := by decide +kernel
theorem dX11_goes_145 : decode cX11_goes 145 = .ok (.iconst 1, 1) := by decide +kernel
theorem dX11_goes_146 : decode cX11_goes 146 = .ok (.iload 6, 2) := by decide +kernel
theorem dX11_goes_148 : decode cX11_goes 148 = .ok (.ishl, 1) := by decide +kernel
theorem dX11_goes_149 : decode cX11_goes 149 = .ok (.ior, 1) := by decide +kernel
theorem dX11_goes_150 : decode cX11_goes 150 = .ok (.aload_n 0, 1) := by decide +kernel
theorem dX11_goes_151 : decode cX11_goes 151 = .ok (.getfield 68, 3) := by decide +kernel
theorem dX11_goes_154 : decode cX11_goes 154 = .ok (.iload 6, 2) := by decide +kernel
theorem dX11_goes_156 : decode cX11_goes 156 = .ok (.iaload, 1) := by decide +kernel
theorem dX11_goes_157 : decode cX11_goes 157 = .ok (.iload 7, 2) := by decide +kernel
theorem dX11_goes_159 : decode cX11_goes 159 = .ok (.bipush 30, 2) := by decide +kernel
theorem dX11_goes_161 : decode cX11_goes 161 = .ok (.iadd, 1) := by decide +kernel
theorem dX11_goes_162 : decode cX11_goes 162 = .ok (.iload 5, 2) := by decide +kernel
theorem dX11_goes_164 : decode cX11_goes 164 = .ok (.aload_n 0, 1) := by decide +kernel
theorem dX11_goes_165 : decode cX11_goes 165 = .ok (.iload 6, 2) := by decide +kernel
theorem dX11_goes_167 : decode cX11_goes 167 = .ok (.iload 7, 2) := by decide +kernel
theorem dX11_goes_169 : decode cX11_goes 169 = .ok (.invokevirtual 245, 3) := by decide +kernel
theorem dX11_goes_172 : decode cX11_goes 172 = .ok (.invokestatic 254, 3) := by decide +kernel
theorem dX11_goes_175 : decode cX11_goes 175 = .ok (.invokestatic 171, 3) := by decide +kernel
theorem dX11_goes_178 : decode cX11_goes 178 = .ok (.invokevirtual 257, 3) := by decide +kernel
theorem dX11_goes_181 : decode cX11_goes 181 = .ok (.iinc 6 1, 3) := by decide +kernel
theorem dX11_goes_184 : decode cX11_goes 184 = .ok (.goto (-100), 3) := by decide +kernel
theorem dX11_goes_187 : decode cX11_goes 187 = .ok (.return_, 1) := by decide +kernel
set_option maxRecDepth 20000 in
theorem ggX11_round_X11_isTown : GoodIn wsX11_round wsX11_isTown := goodIn_r _ [15, 16, 17, 18, 14, 19, 44, 45, 46, 47, 48, 49, 50, 51, 52, 53, 54, 55, 56, 57, 58, 59, 60, 61, 62, 63, 64, 65, 66, 67, 68, 69, 70, 71, 72, 73, 74, 75, 76, 77, 78, 79, 80, 81] (by decide +kernel) (by decide +kernel)
set_option maxRecDepth 20000 in
theorem gX11_round_X11_isTown : GoodIn wsX11_round (wsV RX11 102 RX11 yX11_isTown wsX11_isTown) := goodIn_app (goodIn_of _ (by decide +kernel)) ggX11_round_X11_isTown
set_option maxRecDepth 20000 in
theorem ggX11_round_X11_isMinute : GoodIn wsX11_round wsX11_isMinute := goodIn_r _ [22, 23, 17, 18, 14, 19] (by decide +kernel) (by decide +kernel)
set_option maxRecDepth 20000 in
theorem gX11_round_X11_isMinute : GoodIn wsX11_round (va_wsS RX11 136 yX11_isMinute wsX11_isMinute) := goodIn_app (goodIn_of _ (by decide +kernel)) ggX11_round_X11_isMinute
set_option maxRecDepth 20000 in
theorem ggX11_round_X11_goes : GoodIn wsX11_round wsX11_goes := goodIn_r _ [27, 5, 2, 6, 10, 28, 29, 30, 31, 32, 33, 34, 35, 36, 37, 38, 39, 40, 14, 41, 42, 3, 43, 24, 25, 26, 44, 45, 46, 47, 48, 49, 50, 51, 52, 53, 54, 55, 56, 57, 58, 59, 60, 61, 62, 63, 64, 65, 66, 67, 68, 69, 70, 71, 72, 73, 74, 75, 76, 77, 78, 79, 80, 81] (by decide +kernel) (by decide +kernel)
set_option maxRecDepth 20000 in
theorem gX11_round_X11_goes : GoodIn wsX11_round (wsV RX11 257 RX11 yX11_goes wsX11_goes) := goodIn_app (goodIn_of _ (by decide +kernel)) ggX11_round_X11_goes
theorem dX11_round_0 : decode cX11_round 0 = .ok (.aload_n 0, 1) := by decide +kernel
theorem dX11_round_1 : decode cX11_round 1 = .ok (.iconst 0, 1) := by decide +kernel
theorem dX11_round_2 : decode cX11_round 2 = .ok (.putfield 83, 3) := by decide +kernel
theorem dX11_round_5 : decode cX11_round 5 = .ok (.aload_n 0, 1) := by decide +kernel
theorem dX11_round_6 : decode cX11_round 6 = .ok (.iload_n 1, 1) := by decide +kernel
theorem dX11_round_7 : decode cX11_round 7 = .ok (.invokevirtual 102, 3) := by decide +kernel
theorem dX11_round_10 : decode cX11_round 10 = .ok (.ifCond .eq 21, 3) := by decide +kernel
theorem dX11_round_13 : decode cX11_round 13 = .ok (.iload_n 2, 1) := by decide +kernel
theorem dX11_round_14 : decode cX11_round 14 = .ok (.invokestatic 136, 3) := by decide +kernel
theorem dX11_round_17 : decode cX11_round 17 = .ok (.ifCond .eq 14, 3) := by decide +kernel
theorem dX11_round_20 : decode cX11_round 20 = .ok (.aload_n 0, 1) := by decide +kernel
theorem dX11_round_21 : decode cX11_round 21 = .ok (.getfield 127, 3) := by decide +kernel
theorem dX11_round_24 : decode cX11_round 24 = .ok (.ifCond .le 7, 3) := by decide +kernel
theorem dX11_round_27 : decode cX11_round 27 = .ok (.iconst 1, 1) := by decide +kernel
theorem dX11_round_28 : decode cX11_round 28 = .ok (.goto 4, 3) := by decide +kernel
theorem dX11_round_31 : decode cX11_round 31 = .ok (.iconst 0, 1) := by decide +kernel
theorem dX11_round_32 : decode cX11_round 32 = .ok (.istore_n 3, 1) := by decide +kernel
theorem dX11_round_33 : decode cX11_round 33 = .ok (.iconst 0, 1) := by decide +kernel
theorem dX11_round_34 : decode cX11_round 34 = .ok (.istore 4, 2) := by decide +kernel
theorem dX11_round_36 : decode cX11_round 36 = .ok (.iload 4, 2) := by decide +kernel
theorem dX11_round_38 : decode cX11_round 38 = .ok (.aload_n 0, 1) := by decide +kernel
theorem dX11_round_39 : decode cX11_round 39 = .ok (.getfield 127, 3) := by decide +kernel
theorem dX11_round_42 : decode cX11_round 42 = .ok (.if_icmp .ge 30, 3) := by decide +kernel
theorem dX11_round_45 : decode cX11_round 45 = .ok (.iload_n 3, 1) := by decide +kernel
theorem dX11_round_46 : decode cX11_round 46 = .ok (.ifCond .eq 18, 3) := by decide +kernel
theorem dX11_round_49 : decode cX11_round 49 = .ok (.aload_n 0, 1) := by decide +kernel
theorem dX11_round_50 : decode cX11_round 50 = .ok (.getfield 71, 3) := by decide +kernel
theorem dX11_round_53 : decode cX11_round 53 = .ok (.iload 4, 2) := by decide +kernel
theorem dX11_round_55 : decode cX11_round 55 = .ok (.iaload, 1) := by decide +kernel
theorem dX11_round_56 : decode cX11_round 56 = .ok (.iload_n 2, 1) := by decide +kernel
theorem dX11_round_57 : decode cX11_round 57 = .ok (.if_icmp .gt 7, 3) := by decide +kernel
theorem dX11_round_60 : decode cX11_round 60 = .ok (.iconst 1, 1) := by decide +kernel
theorem dX11_round_61 : decode cX11_round 61 = .ok (.goto 4, 3) := by decide +kernel
theorem dX11_round_64 : decode cX11_round 64 = .ok (.iconst 0, 1) := by decide +kernel
theorem dX11_round_65 : decode cX11_round 65 = .ok (.istore_n 3, 1) := by decide +kernel
theorem dX11_round_66 : decode cX11_round 66 = .ok (.iinc 4 1, 3) := by decide +kernel
theorem dX11_round_69 : decode cX11_round 69 = .ok (.goto (-33), 3) := by decide +kernel
theorem dX11_round_72 : decode cX11_round 72 = .ok (.iload_n 3, 1) := by decide +kernel
theorem dX11_round_73 : decode cX11_round 73 = .ok (.ifCond .ne 5, 3) := by decide +kernel
theorem dX11_round_76 : decode cX11_round 76 = .ok (.iconst (-1), 1) := by decide +kernel
theorem dX11_round_77 : decode cX11_round 77 = .ok (.ireturn, 1) := by decide +kernel
theorem dX11_round_78 : decode cX11_round 78 = .ok (.aload_n 0, 1) := by decide +kernel
theorem dX11_round_79 : decode cX11_round 79 = .ok (.ldc 193, 2) := by decide +kernel
theorem dX11_round_81 : decode cX11_round 81 = .ok (.putfield 248, 3) := by decide +kernel
theorem dX11_round_84 : decode cX11_round 84 = .ok (.aload_n 0, 1) := by decide +kernel
theorem dX11_round_85 : decode cX11_round 85 = .ok (.ldc 193, 2) := by decide +kernel
theorem dX11_round_87 : decode cX11_round 87 = .ok (.putfield 251, 3) := by decide +kernel
theorem dX11_round_90 : decode cX11_round 90 = .ok (.aload_n 0, 1) := by decide +kernel
theorem dX11_round_91 : decode cX11_round 91 = .ok (.iconst 0, 1) := by decide +kernel
theorem dX11_round_92 : decode cX11_round 92 = .ok (.iconst 0, 1) := by decide +kernel
theorem dX11_round_93 : decode cX11_round 93 = .ok (.iload_n 1, 1) := by decide +kernel
theorem dX11_round_94 : decode cX11_round 94 = .ok (.iload_n 2, 1) := by decide +kernel
theorem dX11_round_95 : decode cX11_round 95 = .ok (.iconst 0, 1) := by decide +kernel
theorem dX11_round_96 : decode cX11_round 96 = .ok (.invokevirtual 257, 3) := by decide +kernel
theorem dX11_round_99 : decode cX11_round 99 = .ok (.aload_n 0, 1) := by decide +kernel
theorem dX11_round_100 : decode cX11_round 100 = .ok (.getfield 251, 3) := by decide +kernel
theorem dX11_round_103 : decode cX11_round 103 = .ok (.ldc_w 261, 3) := by decide +kernel
theorem dX11_round_106 : decode cX11_round 106 = .ok (.if_icmp .lt 5, 3) := by decide +kernel
theorem dX11_round_109 : decode cX11_round 109 = .ok (.iconst (-1), 1) := by decide +kernel
theorem dX11_round_110 : decode cX11_round 110 = .ok (.ireturn, 1) := by decide +kernel
theorem dX11_round_111 : decode cX11_round 111 = .ok (.aload_n 0, 1) := by decide +kernel
theorem dX11_round_112 : decode cX11_round 112 = .ok (.aload_n 0, 1) := by decide +kernel
theorem dX11_round_113 : decode cX11_round 113 = .ok (.getfield 127, 3) := by decide +kernel
theorem dX11_round_116 : decode cX11_round 116 = .ok (.iconst 1, 1) := by decide +kernel
theorem dX11_round_117 : decode cX11_round 117 = .ok (.iadd, 1) := by decide +kernel
theorem dX11_round_118 : decode cX11_round 118 = .ok (.putfield 130, 3) := by decide +kernel
theorem dX11_round_121 : decode cX11_round 121 = .ok (.iconst 0, 1) := by decide +kernel
theorem dX11_round_122 : decode cX11_round 122 = .ok (.istore 4, 2) := by decide +kernel
theorem dX11_round_124 : decode cX11_round 124 = .ok (.iload 4, 2) := by decide +kernel
theorem dX11_round_126 : decode cX11_round 126 = .ok (.aload_n 0, 1) := by decide +kernel
theorem dX11_round_127 : decode cX11_round 127 = .ok (.getfield 127, 3) := by decide +kernel
theorem dX11_round_130 : decode cX11_round 130 = .ok (.if_icmp .ge 23, 3) := by decide +kernel
theorem dX11_round_133 : decode cX11_round 133 = .ok (.aload_n 0, 1) := by decide +kernel
theorem dX11_round_134 : decode cX11_round 134 = .ok (.getfield 25, 3) := by decide +kernel
theorem dX11_round_137 : decode cX11_round 137 = .ok (.iload 4, 2) := by decide +kernel
theorem dX11_round_139 : decode cX11_round 139 = .ok (.aload_n 0, 1) := by decide +kernel
theorem dX11_round_140 : decode cX11_round 140 = .ok (.getfield 80, 3) := by decide +kernel
theorem dX11_round_143 : decode cX11_round 143 = .ok (.iload 4, 2) := by decide +kernel
theorem dX11_round_145 : decode cX11_round 145 = .ok (.iaload, 1) := by decide +kernel
theorem dX11_round_146 : decode cX11_round 146 = .ok (.iastore, 1) := by decide +kernel
theorem dX11_round_147 : decode cX11_round 147 = .ok (.iinc 4 1, 3) := by decide +kernel
theorem dX11_round_150 : decode cX11_round 150 = .ok (.goto (-26), 3) := by decide +kernel
theorem dX11_round_153 : decode cX11_round 153 = .ok (.aload_n 0, 1) := by decide +kernel
theorem dX11_round_154 : decode cX11_round 154 = .ok (.getfield 25, 3) := by decide +kernel
theorem dX11_round_157 : decode cX11_round 157 = .ok (.aload_n 0, 1) := by decide +kernel
theorem dX11_round_158 : decode cX11_round 158 = .ok (.getfield 127, 3) := by decide +kernel
theorem dX11_round_161 : decode cX11_round 161 = .ok (.aload_n 0, 1) := by decide +kernel
theorem dX11_round_162 : decode cX11_round 162 = .ok (.getfield 251, 3) := by decide +kernel
theorem dX11_round_165 : decode cX11_round 165 = .ok (.iastore, 1) := by decide +kernel
theorem dX11_round_166 : decode cX11_round 166 = .ok (.aload_n 0, 1) := by decide +kernel
theorem dX11_round_167 : decode cX11_round 167 = .ok (.getfield 248, 3) := by decide +kernel
theorem dX11_round_170 : decode cX11_round 170 = .ok (.ireturn, 1) := by decide +kernel
set_option maxRecDepth 20000 in
theorem ggX11_row_X11_in : GoodIn wsX11_row wsX11_in := goodIn_r _ [7] (by decide +kernel) (by decide +kernel)
set_option maxRecDepth 20000 in
theorem gX11_row_X11_in : GoodIn wsX11_row (va_wsS RX11 90 yX11_in wsX11_in) := goodIn_app (goodIn_of _ (by decide +kernel)) ggX11_row_X11_in
set_option maxRecDepth 20000 in
theorem ggX11_row_X11_refuse : GoodIn wsX11_row wsX11_refuse := goodIn_r _ [11, 1, 12, 13, 14, 15, 16, 17, 18, 19, 20, 21, 22, 23, 24, 25, 26, 27, 28, 29, 30, 31, 32, 33, 34, 35, 36, 37, 38, 39, 40, 41, 42, 43, 44, 45, 46, 47, 48, 49] (by decide +kernel) (by decide +kernel)
set_option maxRecDepth 20000 in
theorem gX11_row_X11_refuse : GoodIn wsX11_row (wsV RX11 143 RX11 yX11_refuse wsX11_refuse) := goodIn_app (goodIn_of _ (by decide +kernel)) ggX11_row_X11_refuse
theorem dX11_row_0 : decode cX11_row 0 = .ok (.aload_n 0, 1) := by decide +kernel
theorem dX11_row_1 : decode cX11_row 1 = .ok (.iconst 0, 1) := by decide +kernel
theorem dX11_row_2 : decode cX11_row 2 = .ok (.putfield 83, 3) := by decide +kernel
theorem dX11_row_5 : decode cX11_row 5 = .ok (.iload_n 1, 1) := by decide +kernel
theorem dX11_row_6 : decode cX11_row 6 = .ok (.i2l, 1) := by decide +kernel
theorem dX11_row_7 : decode cX11_row 7 = .ok (.lconst 0, 1) := by decide +kernel
theorem dX11_row_8 : decode cX11_row 8 = .ok (.aload_n 0, 1) := by decide +kernel
theorem dX11_row_9 : decode cX11_row 9 = .ok (.getfield 130, 3) := by decide +kernel
theorem dX11_row_12 : decode cX11_row 12 = .ok (.iconst 1, 1) := by decide +kernel
theorem dX11_row_13 : decode cX11_row 13 = .ok (.isub, 1) := by decide +kernel
theorem dX11_row_14 : decode cX11_row 14 = .ok (.i2l, 1) := by decide +kernel
theorem dX11_row_15 : decode cX11_row 15 = .ok (.invokestatic 90, 3) := by decide +kernel
theorem dX11_row_18 : decode cX11_row 18 = .ok (.ifCond .eq 12, 3) := by decide +kernel
theorem dX11_row_21 : decode cX11_row 21 = .ok (.aload_n 0, 1) := by decide +kernel
theorem dX11_row_22 : decode cX11_row 22 = .ok (.getfield 25, 3) := by decide +kernel
theorem dX11_row_25 : decode cX11_row 25 = .ok (.iload_n 1, 1) := by decide +kernel
theorem dX11_row_26 : decode cX11_row 26 = .ok (.iaload, 1) := by decide +kernel
theorem dX11_row_27 : decode cX11_row 27 = .ok (.goto 7, 3) := by decide +kernel
theorem dX11_row_30 : decode cX11_row 30 = .ok (.aload_n 0, 1) := by decide +kernel
theorem dX11_row_31 : decode cX11_row 31 = .ok (.invokevirtual 143, 3) := by decide +kernel
theorem dX11_row_34 : decode cX11_row 34 = .ok (.ireturn, 1) := by decide +kernel
theorem dJ11_isValidCodePoint_9a6ad_0 : decode cJ11_isValidCodePoint_9a6ad 0 = .ok (.iload_n 0, 1) := by decide +kernel
theorem dJ11_isValidCodePoint_9a6ad_1 : decode cJ11_isValidCodePoint_9a6ad 1 = .ok (.bipush 16, 2) := by decide +kernel
theorem dJ11_isValidCodePoint_9a6ad_3 : decode cJ11_isValidCodePoint_9a6ad 3 = .ok (.iushr, 1) := by decide +kernel
theorem dJ11_isValidCodePoint_9a6ad_4 : decode cJ11_isValidCodePoint_9a6ad 4 = .ok (.istore_n 1, 1) := by decide +kernel
theorem dJ11_isValidCodePoint_9a6ad_5 : decode cJ11_isValidCodePoint_9a6ad 5 = .ok (.iload_n 1, 1) := by decide +kernel
theorem dJ11_isValidCodePoint_9a6ad_6 : decode cJ11_isValidCodePoint_9a6ad 6 = .ok (.bipush 17, 2) := by decide +kernel
theorem dJ11_isValidCodePoint_9a6ad_8 : decode cJ11_isValidCodePoint_9a6ad 8 = .ok (.if_icmp .ge 7, 3) := by decide +kernel
theorem dJ11_isValidCodePoint_9a6ad_11 : decode cJ11_isValidCodePoint_9a6ad 11 = .ok (.iconst 1, 1) := by decide +kernel
theorem dJ11_isValidCodePoint_9a6ad_12 : decode cJ11_isValidCodePoint_9a6ad 12 = .ok (.goto 4, 3) := by decide +kernel
theorem dJ11_isValidCodePoint_9a6ad_15 : decode cJ11_isValidCodePoint_9a6ad 15 = .ok (.iconst 0, 1) := by decide +kernel
theorem dJ11_isValidCodePoint_9a6ad_16 : decode cJ11_isValidCodePoint_9a6ad 16 = .ok (.ireturn, 1) := by decide +kernel
theorem dJ11_highSurrogate_5068e_0 : decode cJ11_highSurrogate_5068e 0 = .ok (.iload_n 0, 1) := by decide +kernel
theorem dJ11_highSurrogate_5068e_1 : decode cJ11_highSurrogate_5068e 1 = .ok (.bipush 10, 2) := by decide +kernel
theorem dJ11_highSurrogate_5068e_3 : decode cJ11_highSurrogate_5068e 3 = .ok (.iushr, 1) := by decide +kernel
theorem dJ11_highSurrogate_5068e_4 : decode cJ11_highSurrogate_5068e 4 = .ok (.ldc 110, 2) := by decide +kernel
theorem dJ11_highSurrogate_5068e_6 : decode cJ11_highSurrogate_5068e 6 = .ok (.iadd, 1) := by decide +kernel
theorem dJ11_highSurrogate_5068e_7 : decode cJ11_highSurrogate_5068e 7 = .ok (.i2c, 1) := by decide +kernel
theorem dJ11_highSurrogate_5068e_8 : decode cJ11_highSurrogate_5068e 8 = .ok (.ireturn, 1) := by decide +kernel
theorem dJ11_lowSurrogate_5068e_0 : decode cJ11_lowSurrogate_5068e 0 = .ok (.iload_n 0, 1) := by decide +kernel
theorem dJ11_lowSurrogate_5068e_1 : decode cJ11_lowSurrogate_5068e 1 = .ok (.sipush 1023, 3) := by decide +kernel
theorem dJ11_lowSurrogate_5068e_4 : decode cJ11_lowSurrogate_5068e 4 = .ok (.iand, 1) := by decide +kernel
theorem dJ11_lowSurrogate_5068e_5 : decode cJ11_lowSurrogate_5068e 5 = .ok (.ldc 76, 2) := by decide +kernel
theorem dJ11_lowSurrogate_5068e_7 : decode cJ11_lowSurrogate_5068e 7 = .ok (.iadd, 1) := by decide +kernel
theorem dJ11_lowSurrogate_5068e_8 : decode cJ11_lowSurrogate_5068e 8 = .ok (.i2c, 1) := by decide +kernel
theorem dJ11_lowSurrogate_5068e_9 : decode cJ11_lowSurrogate_5068e 9 = .ok (.ireturn, 1) := by decide +kernel
theorem dJ6_bitCount_0f7a4_0 : decode cJ6_bitCount_0f7a4 0 = .ok (.iload_n 0, 1) := by decide +kernel
theorem dJ6_bitCount_0f7a4_1 : decode cJ6_bitCount_0f7a4 1 = .ok (.iload_n 0, 1) := by decide +kernel
theorem dJ6_bitCount_0f7a4_2 : decode cJ6_bitCount_0f7a4 2 = .ok (.iconst 1, 1) := by decide +kernel
theorem dJ6_bitCount_0f7a4_3 : decode cJ6_bitCount_0f7a4 3 = .ok (.iushr, 1) := by decide +kernel
theorem dJ6_bitCount_0f7a4_4 : decode cJ6_bitCount_0f7a4 4 = .ok (.ldc_w 265, 3) := by decide +kernel
theorem dJ6_bitCount_0f7a4_7 : decode cJ6_bitCount_0f7a4 7 = .ok (.iand, 1) := by decide +kernel
theorem dJ6_bitCount_0f7a4_8 : decode cJ6_bitCount_0f7a4 8 = .ok (.isub, 1) := by decide +kernel
theorem dJ6_bitCount_0f7a4_9 : decode cJ6_bitCount_0f7a4 9 = .ok (.istore_n 0, 1) := by decide +kernel
theorem dJ6_bitCount_0f7a4_10 : decode cJ6_bitCount_0f7a4 10 = .ok (.iload_n 0, 1) := by decide +kernel
theorem dJ6_bitCount_0f7a4_11 : decode cJ6_bitCount_0f7a4 11 = .ok (.ldc_w 266, 3) := by decide +kernel
theorem dJ6_bitCount_0f7a4_14 : decode cJ6_bitCount_0f7a4 14 = .ok (.iand, 1) := by decide +kernel
theorem dJ6_bitCount_0f7a4_15 : decode cJ6_bitCount_0f7a4 15 = .ok (.iload_n 0, 1) := by decide +kernel
theorem dJ6_bitCount_0f7a4_16 : decode cJ6_bitCount_0f7a4 16 = .ok (.iconst 2, 1) := by decide +kernel
theorem dJ6_bitCount_0f7a4_17 : decode cJ6_bitCount_0f7a4 17 = .ok (.iushr, 1) := by decide +kernel
theorem dJ6_bitCount_0f7a4_18 : decode cJ6_bitCount_0f7a4 18 = .ok (.ldc_w 266, 3) := by decide +kernel
theorem dJ6_bitCount_0f7a4_21 : decode cJ6_bitCount_0f7a4 21 = .ok (.iand, 1) := by decide +kernel
theorem dJ6_bitCount_0f7a4_22 : decode cJ6_bitCount_0f7a4 22 = .ok (.iadd, 1) := by decide +kernel
theorem dJ6_bitCount_0f7a4_23 : decode cJ6_bitCount_0f7a4 23 = .ok (.istore_n 0, 1) := by decide +kernel
theorem dJ6_bitCount_0f7a4_24 : decode cJ6_bitCount_0f7a4 24 = .ok (.iload_n 0, 1) := by decide +kernel
theorem dJ6_bitCount_0f7a4_25 : decode cJ6_bitCount_0f7a4 25 = .ok (.iload_n 0, 1) := by decide +kernel
theorem dJ6_bitCount_0f7a4_26 : decode cJ6_bitCount_0f7a4 26 = .ok (.iconst 4, 1) := by decide +kernel
theorem dJ6_bitCount_0f7a4_27 : decode cJ6_bitCount_0f7a4 27 = .ok (.iushr, 1) := by decide +kernel
theorem dJ6_bitCount_0f7a4_28 : decode cJ6_bitCount_0f7a4 28 = .ok (.iadd, 1) := by decide +kernel
theorem dJ6_bitCount_0f7a4_29 : decode cJ6_bitCount_0f7a4 29 = .ok (.ldc_w 267, 3) := by decide +kernel
theorem dJ6_bitCount_0f7a4_32 : decode cJ6_bitCount_0f7a4 32 = .ok (.iand, 1) := by decide +kernel
theorem dJ6_bitCount_0f7a4_33 : decode cJ6_bitCount_0f7a4 33 = .ok (.istore_n 0, 1) := by decide +kernel
theorem dJ6_bitCount_0f7a4_34 : decode cJ6_bitCount_0f7a4 34 = .ok (.iload_n 0, 1) := by decide +kernel
theorem dJ6_bitCount_0f7a4_35 : decode cJ6_bitCount_0f7a4 35 = .ok (.iload_n 0, 1) := by decide +kernel
theorem dJ6_bitCount_0f7a4_36 : decode cJ6_bitCount_0f7a4 36 = .ok (.bipush 8, 2) := by decide +kernel
theorem dJ6_bitCount_0f7a4_38 : decode cJ6_bitCount_0f7a4 38 = .ok (.iushr, 1) := by decide +kernel
theorem dJ6_bitCount_0f7a4_39 : decode cJ6_bitCount_0f7a4 39 = .ok (.iadd, 1) := by decide +kernel
theorem dJ6_bitCount_0f7a4_40 : decode cJ6_bitCount_0f7a4 40 = .ok (.istore_n 0, 1) := by decide +kernel
theorem dJ6_bitCount_0f7a4_41 : decode cJ6_bitCount_0f7a4 41 = .ok (.iload_n 0, 1) := by decide +kernel
theorem dJ6_bitCount_0f7a4_42 : decode cJ6_bitCount_0f7a4 42 = .ok (.iload_n 0, 1) := by decide +kernel
theorem dJ6_bitCount_0f7a4_43 : decode cJ6_bitCount_0f7a4 43 = .ok (.bipush 16, 2) := by decide +kernel
theorem dJ6_bitCount_0f7a4_45 : decode cJ6_bitCount_0f7a4 45 = .ok (.iushr, 1) := by decide +kernel
theorem dJ6_bitCount_0f7a4_46 : decode cJ6_bitCount_0f7a4 46 = .ok (.iadd, 1) := by decide +kernel
theorem dJ6_bitCount_0f7a4_47 : decode cJ6_bitCount_0f7a4 47 = .ok (.istore_n 0, 1) := by decide +kernel
theorem dJ6_bitCount_0f7a4_48 : decode cJ6_bitCount_0f7a4 48 = .ok (.iload_n 0, 1) := by decide +kernel
theorem dJ6_bitCount_0f7a4_49 : decode cJ6_bitCount_0f7a4 49 = .ok (.bipush 63, 2) := by decide +kernel
theorem dJ6_bitCount_0f7a4_51 : decode cJ6_bitCount_0f7a4 51 = .ok (.iand, 1) := by decide +kernel
theorem dJ6_bitCount_0f7a4_52 : decode cJ6_bitCount_0f7a4 52 = .ok (.ireturn, 1) := by decide +kernel
theorem dJ9_floorDiv_7cf53_0 : decode cJ9_floorDiv_7cf53 0 = .ok (.iload_n 0, 1) := by decide +kernel
theorem dJ9_floorDiv_7cf53_1 : decode cJ9_floorDiv_7cf53 1 = .ok (.iload_n 1, 1) := by decide +kernel
theorem dJ9_floorDiv_7cf53_2 : decode cJ9_floorDiv_7cf53 2 = .ok (.idiv, 1) := by decide +kernel
theorem dJ9_floorDiv_7cf53_3 : decode cJ9_floorDiv_7cf53 3 = .ok (.istore_n 2, 1) := by decide +kernel
theorem dJ9_floorDiv_7cf53_4 : decode cJ9_floorDiv_7cf53 4 = .ok (.iload_n 0, 1) := by decide +kernel
theorem dJ9_floorDiv_7cf53_5 : decode cJ9_floorDiv_7cf53 5 = .ok (.iload_n 1, 1) := by decide +kernel
theorem dJ9_floorDiv_7cf53_6 : decode cJ9_floorDiv_7cf53 6 = .ok (.ixor, 1) := by decide +kernel
theorem dJ9_floorDiv_7cf53_7 : decode cJ9_floorDiv_7cf53 7 = .ok (.ifCond .ge 14, 3) := by decide +kernel
theorem dJ9_floorDiv_7cf53_10 : decode cJ9_floorDiv_7cf53 10 = .ok (.iload_n 2, 1) := by decide +kernel
theorem dJ9_floorDiv_7cf53_11 : decode cJ9_floorDiv_7cf53 11 = .ok (.iload_n 1, 1) := by decide +kernel
theorem dJ9_floorDiv_7cf53_12 : decode cJ9_floorDiv_7cf53 12 = .ok (.imul, 1) := by decide +kernel
theorem dJ9_floorDiv_7cf53_13 : decode cJ9_floorDiv_7cf53 13 = .ok (.iload_n 0, 1) := by decide +kernel
theorem dJ9_floorDiv_7cf53_14 : decode cJ9_floorDiv_7cf53 14 = .ok (.if_icmp .eq 7, 3) := by decide +kernel
theorem dJ9_floorDiv_7cf53_17 : decode cJ9_floorDiv_7cf53 17 = .ok (.iload_n 2, 1) := by decide +kernel
theorem dJ9_floorDiv_7cf53_18 : decode cJ9_floorDiv_7cf53 18 = .ok (.iconst 1, 1) := by decide +kernel
theorem dJ9_floorDiv_7cf53_19 : decode cJ9_floorDiv_7cf53 19 = .ok (.isub, 1) := by decide +kernel
theorem dJ9_floorDiv_7cf53_20 : decode cJ9_floorDiv_7cf53 20 = .ok (.ireturn, 1) := by decide +kernel
theorem dJ9_floorDiv_7cf53_21 : decode cJ9_floorDiv_7cf53 21 = .ok (.iload_n 2, 1) := by decide +kernel
theorem dJ9_floorDiv_7cf53_22 : decode cJ9_floorDiv_7cf53 22 = .ok (.ireturn, 1) := by decide +kernel
theorem dJ9_floorMod_7cf53_0 : decode cJ9_floorMod_7cf53 0 = .ok (.iload_n 0, 1) := by decide +kernel
theorem dJ9_floorMod_7cf53_1 : decode cJ9_floorMod_7cf53 1 = .ok (.iload_n 1, 1) := by decide +kernel
theorem dJ9_floorMod_7cf53_2 : decode cJ9_floorMod_7cf53 2 = .ok (.irem, 1) := by decide +kernel
theorem dJ9_floorMod_7cf53_3 : decode cJ9_floorMod_7cf53 3 = .ok (.istore_n 2, 1) := by decide +kernel
theorem dJ9_floorMod_7cf53_4 : decode cJ9_floorMod_7cf53 4 = .ok (.iload_n 0, 1) := by decide +kernel
theorem dJ9_floorMod_7cf53_5 : decode cJ9_floorMod_7cf53 5 = .ok (.iload_n 1, 1) := by decide +kernel
theorem dJ9_floorMod_7cf53_6 : decode cJ9_floorMod_7cf53 6 = .ok (.ixor, 1) := by decide +kernel
theorem dJ9_floorMod_7cf53_7 : decode cJ9_floorMod_7cf53 7 = .ok (.ifCond .ge 11, 3) := by decide +kernel
theorem dJ9_floorMod_7cf53_10 : decode cJ9_floorMod_7cf53 10 = .ok (.iload_n 2, 1) := by decide +kernel
theorem dJ9_floorMod_7cf53_11 : decode cJ9_floorMod_7cf53 11 = .ok (.ifCond .eq 7, 3) := by decide +kernel
theorem dJ9_floorMod_7cf53_14 : decode cJ9_floorMod_7cf53 14 = .ok (.iload_n 2, 1) := by decide +kernel
theorem dJ9_floorMod_7cf53_15 : decode cJ9_floorMod_7cf53 15 = .ok (.iload_n 1, 1) := by decide +kernel
theorem dJ9_floorMod_7cf53_16 : decode cJ9_floorMod_7cf53 16 = .ok (.iadd, 1) := by decide +kernel
theorem dJ9_floorMod_7cf53_17 : decode cJ9_floorMod_7cf53 17 = .ok (.ireturn, 1) := by decide +kernel
theorem dJ9_floorMod_7cf53_18 : decode cJ9_floorMod_7cf53 18 = .ok (.iload_n 2, 1) := by decide +kernel
theorem dJ9_floorMod_7cf53_19 : decode cJ9_floorMod_7cf53 19 = .ok (.ireturn, 1) := by decide +kernel
theorem dJ9_abs_0f7a4_0 : decode cJ9_abs_0f7a4 0 = .ok (.iload_n 0, 1) := by decide +kernel
theorem dJ9_abs_0f7a4_1 : decode cJ9_abs_0f7a4 1 = .ok (.ifCond .ge 8, 3) := by decide +kernel
theorem dJ9_abs_0f7a4_4 : decode cJ9_abs_0f7a4 4 = .ok (.iload_n 0, 1) := by decide +kernel
theorem dJ9_abs_0f7a4_5 : decode cJ9_abs_0f7a4 5 = .ok (.ineg, 1) := by decide +kernel
theorem dJ9_abs_0f7a4_6 : decode cJ9_abs_0f7a4 6 = .ok (.goto 4, 3) := by decide +kernel
theorem dJ9_abs_0f7a4_9 : decode cJ9_abs_0f7a4 9 = .ok (.iload_n 0, 1) := by decide +kernel
theorem dJ9_abs_0f7a4_10 : decode cJ9_abs_0f7a4 10 = .ok (.ireturn, 1) := by decide +kernel
theorem dJ9_max_7cf53_0 : decode cJ9_max_7cf53 0 = .ok (.iload_n 0, 1) := by decide +kernel
theorem dJ9_max_7cf53_1 : decode cJ9_max_7cf53 1 = .ok (.iload_n 1, 1) := by decide +kernel
theorem dJ9_max_7cf53_2 : decode cJ9_max_7cf53 2 = .ok (.if_icmp .lt 7, 3) := by decide +kernel
theorem dJ9_max_7cf53_5 : decode cJ9_max_7cf53 5 = .ok (.iload_n 0, 1) := by decide +kernel
theorem dJ9_max_7cf53_6 : decode cJ9_max_7cf53 6 = .ok (.goto 4, 3) := by decide +kernel
theorem dJ9_max_7cf53_9 : decode cJ9_max_7cf53 9 = .ok (.iload_n 1, 1) := by decide +kernel
theorem dJ9_max_7cf53_10 : decode cJ9_max_7cf53 10 = .ok (.ireturn, 1) := by decide +kernel
theorem dJ9_min_7cf53_0 : decode cJ9_min_7cf53 0 = .ok (.iload_n 0, 1) := by decide +kernel
theorem dJ9_min_7cf53_1 : decode cJ9_min_7cf53 1 = .ok (.iload_n 1, 1) := by decide +kernel
theorem dJ9_min_7cf53_2 : decode cJ9_min_7cf53 2 = .ok (.if_icmp .gt 7, 3) := by decide +kernel
theorem dJ9_min_7cf53_5 : decode cJ9_min_7cf53 5 = .ok (.iload_n 0, 1) := by decide +kernel
theorem dJ9_min_7cf53_6 : decode cJ9_min_7cf53 6 = .ok (.goto 4, 3) := by decide +kernel
theorem dJ9_min_7cf53_9 : decode cJ9_min_7cf53 9 = .ok (.iload_n 1, 1) := by decide +kernel
theorem dJ9_min_7cf53_10 : decode cJ9_min_7cf53 10 = .ok (.ireturn, 1) := by decide +kernel
set_option maxRecDepth 20000 in
theorem ggJ0_length_8abf5_J0_coder_7d493 : GoodIn wsJ0_length_8abf5 wsJ0_coder_7d493 := goodIn_r _ [6, 7, 8] (by decide +kernel) (by decide +kernel)
set_option maxRecDepth 20000 in
theorem gJ0_length_8abf5_J0_coder_7d493 : GoodIn wsJ0_length_8abf5 (wsV RJ0 335 RJ0 yJ0_coder_7d493 wsJ0_coder_7d493) := goodIn_app (goodIn_of _ (by decide +kernel)) ggJ0_length_8abf5_J0_coder_7d493
theorem dJ0_length_8abf5_0 : decode cJ0_length_8abf5 0 = .ok (.aload_n 0, 1) := by decide +kernel
theorem dJ0_length_8abf5_1 : decode cJ0_length_8abf5 1 = .ok (.getfield 9, 3) := by decide +kernel
theorem dJ0_length_8abf5_4 : decode cJ0_length_8abf5 4 = .ok (.arraylength, 1) := by decide +kernel
theorem dJ0_length_8abf5_5 : decode cJ0_length_8abf5 5 = .ok (.aload_n 0, 1) := by decide +kernel
theorem dJ0_length_8abf5_6 : decode cJ0_length_8abf5 6 = .ok (.invokevirtual 335, 3) := by decide +kernel
theorem dJ0_length_8abf5_9 : decode cJ0_length_8abf5 9 = .ok (.ishr, 1) := by decide +kernel
theorem dJ0_length_8abf5_10 : decode cJ0_length_8abf5 10 = .ok (.ireturn, 1) := by decide +kernel
set_option maxRecDepth 20000 in
theorem ggJ0_indexOf_0f7a4_J0_indexOf_7cf53 : GoodIn wsJ0_indexOf_0f7a4 wsJ0_indexOf_7cf53 := goodIn_r _ [5, 6, 7, 8, 9, 4, 10, 11, 12, 13, 14, 15, 16, 17, 18, 19, 20, 21, 22, 23, 24, 25, 26, 27, 28, 29, 30, 31, 32, 33, 34, 35, 36, 37, 38, 39, 40, 41, 42, 43, 44, 45, 46, 47, 48, 49, 50, 51, 52, 53, 54, 55, 56, 57, 58, 59, 60, 61, 62, 63, 64, 65, 66, 67, 68, 69, 70, 71, 72, 73, 74, 75, 76, 77, 78, 79, 80, 81, 82, 83, 84, 85] (by decide +kernel) (by decide +kernel)
set_option maxRecDepth 20000 in
theorem gJ0_indexOf_0f7a4_J0_indexOf_7cf53 : GoodIn wsJ0_indexOf_0f7a4 (wsV RJ0 633 RJ0 yJ0_indexOf_7cf53 wsJ0_indexOf_7cf53) := goodIn_app (goodIn_of _ (by decide +kernel)) ggJ0_indexOf_0f7a4_J0_indexOf_7cf53
theorem dJ0_indexOf_0f7a4_0 : decode cJ0_indexOf_0f7a4 0 = .ok (.aload_n 0, 1) := by decide +kernel
theorem dJ0_indexOf_0f7a4_1 : decode cJ0_indexOf_0f7a4 1 = .ok (.iload_n 1, 1) := by decide +kernel
theorem dJ0_indexOf_0f7a4_2 : decode cJ0_indexOf_0f7a4 2 = .ok (.iconst 0, 1) := by decide +kernel
theorem dJ0_indexOf_0f7a4_3 : decode cJ0_indexOf_0f7a4 3 = .ok (.invokevirtual 633, 3) := by decide +kernel
theorem dJ0_indexOf_0f7a4_6 : decode cJ0_indexOf_0f7a4 6 = .ok (.ireturn, 1) := by decide +kernel
set_option maxRecDepth 20000 in
theorem ggJ0_indexOf_7cf53_J0_isLatin1_aae02 : GoodIn wsJ0_indexOf_7cf53 wsJ0_isLatin1_aae02 := goodIn_r _ [6, 7, 8] (by decide +kernel) (by decide +kernel)
set_option maxRecDepth 20000 in
theorem gJ0_indexOf_7cf53_J0_isLatin1_aae02 : GoodIn wsJ0_indexOf_7cf53 (wsV RJ0 492 RJ0 yJ0_isLatin1_aae02 wsJ0_isLatin1_aae02) := goodIn_app (goodIn_of _ (by decide +kernel)) ggJ0_indexOf_7cf53_J0_isLatin1_aae02
set_option maxRecDepth 20000 in
theorem ggJ0_indexOf_7cf53_J0_length_8abf5 : GoodIn wsJ0_indexOf_7cf53 wsJ0_length_8abf5 := goodIn_r _ [12, 1, 13, 14, 15, 5, 16, 7, 8] (by decide +kernel) (by decide +kernel)
set_option maxRecDepth 20000 in
theorem gJ0_indexOf_7cf53_J0_length_8abf5 : GoodIn wsJ0_indexOf_7cf53 (wsV RJ0 505 RJ0 yJ0_length_8abf5 wsJ0_length_8abf5) := goodIn_app (goodIn_of _ (by decide +kernel)) ggJ0_indexOf_7cf53_J0_length_8abf5
set_option maxRecDepth 20000 in
theorem ggJ0_indexOf_7cf53_J1_indexOf_4cfef : GoodIn wsJ0_indexOf_7cf53 wsJ1_indexOf_4cfef := goodIn_r _ [20, 21, 22, 23, 24, 25, 26, 27, 28, 29, 19, 30, 31, 32, 33] (by decide +kernel) (by decide +kernel)
set_option maxRecDepth 20000 in
theorem gJ0_indexOf_7cf53_J1_indexOf_4cfef : GoodIn wsJ0_indexOf_7cf53 (va_wsS RJ0 637 yJ1_indexOf_4cfef wsJ1_indexOf_4cfef) := goodIn_app (goodIn_of _ (by decide +kernel)) ggJ0_indexOf_7cf53_J1_indexOf_4cfef
set_option maxRecDepth 20000 in
theorem ggJ0_indexOf_7cf53_J2_indexOf_4cfef : GoodIn wsJ0_indexOf_7cf53 wsJ2_indexOf_4cfef := goodIn_r _ [37, 38, 22, 23, 24, 39, 26, 27, 40, 41, 42, 36, 43, 44, 45, 46, 47, 48, 49, 50, 51, 5, 52, 53, 54, 55, 56, 57, 58, 59, 60, 61, 62, 63, 64, 65, 66, 67, 68, 69, 70, 71, 72, 73, 74, 75, 76, 77, 78, 79, 80, 81] (by decide +kernel) (by decide +kernel)
set_option maxRecDepth 20000 in
theorem gJ0_indexOf_7cf53_J2_indexOf_4cfef : GoodIn wsJ0_indexOf_7cf53 (va_wsS RJ0 640 yJ2_indexOf_4cfef wsJ2_indexOf_4cfef) := goodIn_app (goodIn_of _ (by decide +kernel)) ggJ0_indexOf_7cf53_J2_indexOf_4cfef
theorem dJ0_indexOf_7cf53_0 : decode cJ0_indexOf_7cf53 0 = .ok (.aload_n 0, 1) := by decide +kernel
theorem dJ0_indexOf_7cf53_1 : decode cJ0_indexOf_7cf53 1 = .ok (.invokevirtual 492, 3) := by decide +kernel
theorem dJ0_indexOf_7cf53_4 : decode cJ0_indexOf_7cf53 4 = .ok (.ifCond .eq 19, 3) := by decide +kernel
theorem dJ0_indexOf_7cf53_7 : decode cJ0_indexOf_7cf53 7 = .ok (.aload_n 0, 1) := by decide +kernel
theorem dJ0_indexOf_7cf53_8 : decode cJ0_indexOf_7cf53 8 = .ok (.getfield 9, 3) := by decide +kernel
theorem dJ0_indexOf_7cf53_11 : decode cJ0_indexOf_7cf53 11 = .ok (.iload_n 1, 1) := by decide +kernel
theorem dJ0_indexOf_7cf53_12 : decode cJ0_indexOf_7cf53 12 = .ok (.iload_n 2, 1) := by decide +kernel
theorem dJ0_indexOf_7cf53_13 : decode cJ0_indexOf_7cf53 13 = .ok (.aload_n 0, 1) := by decide +kernel
theorem dJ0_indexOf_7cf53_14 : decode cJ0_indexOf_7cf53 14 = .ok (.invokevirtual 505, 3) := by decide +kernel
theorem dJ0_indexOf_7cf53_17 : decode cJ0_indexOf_7cf53 17 = .ok (.invokestatic 637, 3) := by decide +kernel
theorem dJ0_indexOf_7cf53_20 : decode cJ0_indexOf_7cf53 20 = .ok (.goto 16, 3) := by decide +kernel
theorem dJ0_indexOf_7cf53_23 : decode cJ0_indexOf_7cf53 23 = .ok (.aload_n 0, 1) := by decide +kernel
theorem dJ0_indexOf_7cf53_24 : decode cJ0_indexOf_7cf53 24 = .ok (.getfield 9, 3) := by decide +kernel
theorem dJ0_indexOf_7cf53_27 : decode cJ0_indexOf_7cf53 27 = .ok (.iload_n 1, 1) := by decide +kernel
theorem dJ0_indexOf_7cf53_28 : decode cJ0_indexOf_7cf53 28 = .ok (.iload_n 2, 1) := by decide +kernel
theorem dJ0_indexOf_7cf53_29 : decode cJ0_indexOf_7cf53 29 = .ok (.aload_n 0, 1) := by decide +kernel
theorem dJ0_indexOf_7cf53_30 : decode cJ0_indexOf_7cf53 30 = .ok (.invokevirtual 505, 3) := by decide +kernel
theorem dJ0_indexOf_7cf53_33 : decode cJ0_indexOf_7cf53 33 = .ok (.invokestatic 640, 3) := by decide +kernel
theorem dJ0_indexOf_7cf53_36 : decode cJ0_indexOf_7cf53 36 = .ok (.ireturn, 1) := by decide +kernel
theorem dJ0_coder_7d493_0 : decode cJ0_coder_7d493 0 = .ok (.getstatic 38, 3) := by decide +kernel
theorem dJ0_coder_7d493_3 : decode cJ0_coder_7d493 3 = .ok (.ifCond .eq 10, 3) := by decide +kernel
theorem dJ0_coder_7d493_6 : decode cJ0_coder_7d493 6 = .ok (.aload_n 0, 1) := by decide +kernel
theorem dJ0_coder_7d493_7 : decode cJ0_coder_7d493 7 = .ok (.getfield 15, 3) := by decide +kernel
theorem dJ0_coder_7d493_10 : decode cJ0_coder_7d493 10 = .ok (.goto 4, 3) := by decide +kernel
theorem dJ0_coder_7d493_13 : decode cJ0_coder_7d493 13 = .ok (.iconst 1, 1) := by decide +kernel
theorem dJ0_coder_7d493_14 : decode cJ0_coder_7d493 14 = .ok (.ireturn, 1) := by decide +kernel
theorem dJ0_isLatin1_aae02_0 : decode cJ0_isLatin1_aae02 0 = .ok (.getstatic 38, 3) := by decide +kernel
theorem dJ0_isLatin1_aae02_3 : decode cJ0_isLatin1_aae02 3 = .ok (.ifCond .eq 14, 3) := by decide +kernel
theorem dJ0_isLatin1_aae02_6 : decode cJ0_isLatin1_aae02 6 = .ok (.aload_n 0, 1) := by decide +kernel
theorem dJ0_isLatin1_aae02_7 : decode cJ0_isLatin1_aae02 7 = .ok (.getfield 15, 3) := by decide +kernel
theorem dJ0_isLatin1_aae02_10 : decode cJ0_isLatin1_aae02 10 = .ok (.ifCond .ne 7, 3) := by decide +kernel
theorem dJ0_isLatin1_aae02_13 : decode cJ0_isLatin1_aae02 13 = .ok (.iconst 1, 1) := by decide +kernel
theorem dJ0_isLatin1_aae02_14 : decode cJ0_isLatin1_aae02 14 = .ok (.goto 4, 3) := by decide +kernel
theorem dJ0_isLatin1_aae02_17 : decode cJ0_isLatin1_aae02 17 = .ok (.iconst 0, 1) := by decide +kernel
theorem dJ0_isLatin1_aae02_18 : decode cJ0_isLatin1_aae02 18 = .ok (.ireturn, 1) := by decide +kernel
set_option maxRecDepth 20000 in
theorem ggJ0_checkBoundsBeginEnd_23922_J3_checkFromToIndex_8c36e : GoodIn wsJ0_checkBoundsBeginEnd_23922 wsJ3_checkFromToIndex_8c36e := goodIn_r _ [5] (by decide +kernel) (by decide +kernel)
set_option maxRecDepth 20000 in
theorem gJ0_checkBoundsBeginEnd_23922_J3_checkFromToIndex_8c36e : GoodIn wsJ0_checkBoundsBeginEnd_23922 (va_wsS RJ0 1062 yJ3_checkFromToIndex_8c36e wsJ3_checkFromToIndex_8c36e) := goodIn_app (goodIn_of _ (by decide +kernel)) ggJ0_checkBoundsBeginEnd_23922_J3_checkFromToIndex_8c36e
theorem dJ0_checkBoundsBeginEnd_23922_0 : decode cJ0_checkBoundsBeginEnd_23922 0 = .ok (.iload_n 0, 1) := by decide +kernel
theorem dJ0_checkBoundsBeginEnd_23922_1 : decode cJ0_checkBoundsBeginEnd_23922 1 = .ok (.iload_n 1, 1) := by decide +kernel
theorem dJ0_checkBoundsBeginEnd_23922_2 : decode cJ0_checkBoundsBeginEnd_23922 2 = .ok (.iload_n 2, 1) := by decide +kernel
theorem dJ0_checkBoundsBeginEnd_23922_3 : decode cJ0_checkBoundsBeginEnd_23922 3 = .ok (.getstatic 1053, 3) := by decide +kernel
theorem dJ0_checkBoundsBeginEnd_23922_6 : decode cJ0_checkBoundsBeginEnd_23922 6 = .ok (.invokestatic 1062, 3) := by decide +kernel
theorem dJ0_checkBoundsBeginEnd_23922_9 : decode cJ0_checkBoundsBeginEnd_23922 9 = .ok (.pop, 1) := by decide +kernel
theorem dJ0_checkBoundsBeginEnd_23922_10 : decode cJ0_checkBoundsBeginEnd_23922 10 = .ok (.return_, 1) := by decide +kernel
theorem dJ1_canEncode_9a6ad_0 : decode cJ1_canEncode_9a6ad 0 = .ok (.iload_n 0, 1) := by decide +kernel
theorem dJ1_canEncode_9a6ad_1 : decode cJ1_canEncode_9a6ad 1 = .ok (.ifCond .lt 14, 3) := by decide +kernel
theorem dJ1_canEncode_9a6ad_4 : decode cJ1_canEncode_9a6ad 4 = .ok (.iload_n 0, 1) := by decide +kernel
theorem dJ1_canEncode_9a6ad_5 : decode cJ1_canEncode_9a6ad 5 = .ok (.sipush 255, 3) := by decide +kernel
theorem dJ1_canEncode_9a6ad_8 : decode cJ1_canEncode_9a6ad 8 = .ok (.if_icmp .gt 7, 3) := by decide +kernel
theorem dJ1_canEncode_9a6ad_11 : decode cJ1_canEncode_9a6ad 11 = .ok (.iconst 1, 1) := by decide +kernel
theorem dJ1_canEncode_9a6ad_12 : decode cJ1_canEncode_9a6ad 12 = .ok (.goto 4, 3) := by decide +kernel
theorem dJ1_canEncode_9a6ad_15 : decode cJ1_canEncode_9a6ad 15 = .ok (.iconst 0, 1) := by decide +kernel
theorem dJ1_canEncode_9a6ad_16 : decode cJ1_canEncode_9a6ad 16 = .ok (.ireturn, 1) := by decide +kernel
set_option maxRecDepth 20000 in
theorem ggJ1_indexOf_4cfef_J1_canEncode_9a6ad : GoodIn wsJ1_indexOf_4cfef wsJ1_canEncode_9a6ad := goodIn_r _ [11] (by decide +kernel) (by decide +kernel)
set_option maxRecDepth 20000 in
theorem gJ1_indexOf_4cfef_J1_canEncode_9a6ad : GoodIn wsJ1_indexOf_4cfef (va_wsS RJ1 88 yJ1_canEncode_9a6ad wsJ1_canEncode_9a6ad) := goodIn_app (goodIn_of _ (by decide +kernel)) ggJ1_indexOf_4cfef_J1_canEncode_9a6ad
set_option maxRecDepth 20000 in
theorem ggJ1_indexOf_4cfef_J1_indexOfChar_4cfef : GoodIn wsJ1_indexOf_4cfef wsJ1_indexOfChar_4cfef := goodIn_r _ [14] (by decide +kernel) (by decide +kernel)
set_option maxRecDepth 20000 in
theorem gJ1_indexOf_4cfef_J1_indexOfChar_4cfef : GoodIn wsJ1_indexOf_4cfef (va_wsS RJ1 95 yJ1_indexOfChar_4cfef wsJ1_indexOfChar_4cfef) := goodIn_app (goodIn_of _ (by decide +kernel)) ggJ1_indexOf_4cfef_J1_indexOfChar_4cfef
theorem dJ1_indexOf_4cfef_0 : decode cJ1_indexOf_4cfef 0 = .ok (.iload_n 1, 1) := by decide +kernel
theorem dJ1_indexOf_4cfef_1 : decode cJ1_indexOf_4cfef 1 = .ok (.invokestatic 88, 3) := by decide +kernel
theorem dJ1_indexOf_4cfef_4 : decode cJ1_indexOf_4cfef 4 = .ok (.ifCond .ne 5, 3) := by decide +kernel
theorem dJ1_indexOf_4cfef_7 : decode cJ1_indexOf_4cfef 7 = .ok (.iconst (-1), 1) := by decide +kernel
theorem dJ1_indexOf_4cfef_8 : decode cJ1_indexOf_4cfef 8 = .ok (.ireturn, 1) := by decide +kernel
theorem dJ1_indexOf_4cfef_9 : decode cJ1_indexOf_4cfef 9 = .ok (.iload_n 2, 1) := by decide +kernel
theorem dJ1_indexOf_4cfef_10 : decode cJ1_indexOf_4cfef 10 = .ok (.iconst 0, 1) := by decide +kernel
theorem dJ1_indexOf_4cfef_11 : decode cJ1_indexOf_4cfef 11 = .ok (.invokestatic 92, 3) := by decide +kernel
theorem dJ1_indexOf_4cfef_14 : decode cJ1_indexOf_4cfef 14 = .ok (.istore_n 2, 1) := by decide +kernel
theorem dJ1_indexOf_4cfef_15 : decode cJ1_indexOf_4cfef 15 = .ok (.iload_n 3, 1) := by decide +kernel
theorem dJ1_indexOf_4cfef_16 : decode cJ1_indexOf_4cfef 16 = .ok (.aload_n 0, 1) := by decide +kernel
theorem dJ1_indexOf_4cfef_17 : decode cJ1_indexOf_4cfef 17 = .ok (.arraylength, 1) := by decide +kernel
theorem dJ1_indexOf_4cfef_18 : decode cJ1_indexOf_4cfef 18 = .ok (.invokestatic 38, 3) := by decide +kernel
theorem dJ1_indexOf_4cfef_21 : decode cJ1_indexOf_4cfef 21 = .ok (.istore_n 3, 1) := by decide +kernel
theorem dJ1_indexOf_4cfef_22 : decode cJ1_indexOf_4cfef 22 = .ok (.iload_n 2, 1) := by decide +kernel
theorem dJ1_indexOf_4cfef_23 : decode cJ1_indexOf_4cfef 23 = .ok (.iload_n 3, 1) := by decide +kernel
theorem dJ1_indexOf_4cfef_24 : decode cJ1_indexOf_4cfef 24 = .ok (.if_icmp .lt 5, 3) := by decide +kernel
theorem dJ1_indexOf_4cfef_27 : decode cJ1_indexOf_4cfef 27 = .ok (.iconst (-1), 1) := by decide +kernel
theorem dJ1_indexOf_4cfef_28 : decode cJ1_indexOf_4cfef 28 = .ok (.ireturn, 1) := by decide +kernel
theorem dJ1_indexOf_4cfef_29 : decode cJ1_indexOf_4cfef 29 = .ok (.aload_n 0, 1) := by decide +kernel
theorem dJ1_indexOf_4cfef_30 : decode cJ1_indexOf_4cfef 30 = .ok (.iload_n 1, 1) := by decide +kernel
theorem dJ1_indexOf_4cfef_31 : decode cJ1_indexOf_4cfef 31 = .ok (.iload_n 2, 1) := by decide +kernel
theorem dJ1_indexOf_4cfef_32 : decode cJ1_indexOf_4cfef 32 = .ok (.iload_n 3, 1) := by decide +kernel
theorem dJ1_indexOf_4cfef_33 : decode cJ1_indexOf_4cfef 33 = .ok (.invokestatic 95, 3) := by decide +kernel
theorem dJ1_indexOf_4cfef_36 : decode cJ1_indexOf_4cfef 36 = .ok (.ireturn, 1) := by decide +kernel
theorem dJ1_indexOfChar_4cfef_0 : decode cJ1_indexOfChar_4cfef 0 = .ok (.iload_n 1, 1) := by decide +kernel
theorem dJ1_indexOfChar_4cfef_1 : decode cJ1_indexOfChar_4cfef 1 = .ok (.i2b, 1) := by decide +kernel
theorem dJ1_indexOfChar_4cfef_2 : decode cJ1_indexOfChar_4cfef 2 = .ok (.istore 4, 2) := by decide +kernel
theorem dJ1_indexOfChar_4cfef_4 : decode cJ1_indexOfChar_4cfef 4 = .ok (.iload_n 2, 1) := by decide +kernel
theorem dJ1_indexOfChar_4cfef_5 : decode cJ1_indexOfChar_4cfef 5 = .ok (.istore 5, 2) := by decide +kernel
theorem dJ1_indexOfChar_4cfef_7 : decode cJ1_indexOfChar_4cfef 7 = .ok (.iload 5, 2) := by decide +kernel
theorem dJ1_indexOfChar_4cfef_9 : decode cJ1_indexOfChar_4cfef 9 = .ok (.iload_n 3, 1) := by decide +kernel
theorem dJ1_indexOfChar_4cfef_10 : decode cJ1_indexOfChar_4cfef 10 = .ok (.if_icmp .ge 21, 3) := by decide +kernel
theorem dJ1_indexOfChar_4cfef_13 : decode cJ1_indexOfChar_4cfef 13 = .ok (.aload_n 0, 1) := by decide +kernel
theorem dJ1_indexOfChar_4cfef_14 : decode cJ1_indexOfChar_4cfef 14 = .ok (.iload 5, 2) := by decide +kernel
theorem dJ1_indexOfChar_4cfef_16 : decode cJ1_indexOfChar_4cfef 16 = .ok (.baload, 1) := by decide +kernel
theorem dJ1_indexOfChar_4cfef_17 : decode cJ1_indexOfChar_4cfef 17 = .ok (.iload 4, 2) := by decide +kernel
theorem dJ1_indexOfChar_4cfef_19 : decode cJ1_indexOfChar_4cfef 19 = .ok (.if_icmp .ne 6, 3) := by decide +kernel
theorem dJ1_indexOfChar_4cfef_22 : decode cJ1_indexOfChar_4cfef 22 = .ok (.iload 5, 2) := by decide +kernel
theorem dJ1_indexOfChar_4cfef_24 : decode cJ1_indexOfChar_4cfef 24 = .ok (.ireturn, 1) := by decide +kernel
theorem dJ1_indexOfChar_4cfef_25 : decode cJ1_indexOfChar_4cfef 25 = .ok (.iinc 5 1, 3) := by decide +kernel
theorem dJ1_indexOfChar_4cfef_28 : decode cJ1_indexOfChar_4cfef 28 = .ok (.goto (-21), 3) := by decide +kernel
theorem dJ1_indexOfChar_4cfef_31 : decode cJ1_indexOfChar_4cfef 31 = .ok (.iconst (-1), 1) := by decide +kernel
theorem dJ1_indexOfChar_4cfef_32 : decode cJ1_indexOfChar_4cfef 32 = .ok (.ireturn, 1) := by decide +kernel
set_option maxRecDepth 20000 in
theorem ggJ2_getChar_3b067_J2_length_9d52b : GoodIn wsJ2_getChar_3b067 wsJ2_length_9d52b := goodIn_r _ [7] (by decide +kernel) (by decide +kernel)
set_option maxRecDepth 20000 in
theorem gJ2_getChar_3b067_J2_length_9d52b : GoodIn wsJ2_getChar_3b067 (va_wsS RJ2 48 yJ2_length_9d52b wsJ2_length_9d52b) := goodIn_app (goodIn_of _ (by decide +kernel)) ggJ2_getChar_3b067_J2_length_9d52b
theorem dJ2_getChar_3b067_0 : decode cJ2_getChar_3b067 0 = .ok (.getstatic 44, 3) := by decide +kernel
theorem dJ2_getChar_3b067_3 : decode cJ2_getChar_3b067 3 = .ok (.ifCond .ne 25, 3) := by decide +kernel
theorem dJ2_getChar_3b067_6 : decode cJ2_getChar_3b067 6 = .ok (.iload_n 1, 1) := by decide +kernel
theorem dJ2_getChar_3b067_7 : decode cJ2_getChar_3b067 7 = .ok (.ifCond .lt 11, 3) := by decide +kernel
theorem dJ2_getChar_3b067_10 : decode cJ2_getChar_3b067 10 = .ok (.iload_n 1, 1) := by decide +kernel
theorem dJ2_getChar_3b067_11 : decode cJ2_getChar_3b067 11 = .ok (.aload_n 0, 1) := by decide +kernel
theorem dJ2_getChar_3b067_12 : decode cJ2_getChar_3b067 12 = .ok (.invokestatic 48, 3) := by decide +kernel
theorem dJ2_getChar_3b067_15 : decode cJ2_getChar_3b067 15 = .ok (.if_icmp .lt 13, 3) := by decide +kernel
theorem dJ2_getChar_3b067_18 : decode cJ2_getChar_3b067 18 = .ok (.new 52, 3) := by decide +kernel
theorem dJ2_getChar_3b067_21 : decode cJ2_getChar_3b067 21 = .ok (.dup, 1) := by decide +kernel
theorem dJ2_getChar_3b067_22 : decode cJ2_getChar_3b067 22 = .ok (.ldc 54, 2) := by decide +kernel
theorem dJ2_getChar_3b067_24 : decode cJ2_getChar_3b067 24 = .ok (.invokespecial 56, 3) := by decide +kernel
theorem dJ2_getChar_3b067_27 : decode cJ2_getChar_3b067 27 = .ok (.athrow, 1) := by decide +kernel
theorem dJ2_getChar_3b067_28 : decode cJ2_getChar_3b067 28 = .ok (.iload_n 1, 1) := by decide +kernel
theorem dJ2_getChar_3b067_29 : decode cJ2_getChar_3b067 29 = .ok (.iconst 1, 1) := by decide +kernel
theorem dJ2_getChar_3b067_30 : decode cJ2_getChar_3b067 30 = .ok (.ishl, 1) := by decide +kernel
theorem dJ2_getChar_3b067_31 : decode cJ2_getChar_3b067 31 = .ok (.istore_n 1, 1) := by decide +kernel
theorem dJ2_getChar_3b067_32 : decode cJ2_getChar_3b067 32 = .ok (.aload_n 0, 1) := by decide +kernel
theorem dJ2_getChar_3b067_33 : decode cJ2_getChar_3b067 33 = .ok (.iload_n 1, 1) := by decide +kernel
theorem dJ2_getChar_3b067_34 : decode cJ2_getChar_3b067 34 = .ok (.iinc 1 1, 3) := by decide +kernel
theorem dJ2_getChar_3b067_37 : decode cJ2_getChar_3b067 37 = .ok (.baload, 1) := by decide +kernel
theorem dJ2_getChar_3b067_38 : decode cJ2_getChar_3b067 38 = .ok (.sipush 255, 3) := by decide +kernel
theorem dJ2_getChar_3b067_41 : decode cJ2_getChar_3b067 41 = .ok (.iand, 1) := by decide +kernel
theorem dJ2_getChar_3b067_42 : decode cJ2_getChar_3b067 42 = .ok (.getstatic 59, 3) := by decide +kernel
theorem dJ2_getChar_3b067_45 : decode cJ2_getChar_3b067 45 = .ok (.ishl, 1) := by decide +kernel
theorem dJ2_getChar_3b067_46 : decode cJ2_getChar_3b067 46 = .ok (.aload_n 0, 1) := by decide +kernel
theorem dJ2_getChar_3b067_47 : decode cJ2_getChar_3b067 47 = .ok (.iload_n 1, 1) := by decide +kernel
theorem dJ2_getChar_3b067_48 : decode cJ2_getChar_3b067 48 = .ok (.baload, 1) := by decide +kernel
theorem dJ2_getChar_3b067_49 : decode cJ2_getChar_3b067 49 = .ok (.sipush 255, 3) := by decide +kernel
theorem dJ2_getChar_3b067_52 : decode cJ2_getChar_3b067 52 = .ok (.iand, 1) := by decide +kernel
theorem dJ2_getChar_3b067_53 : decode cJ2_getChar_3b067 53 = .ok (.getstatic 63, 3) := by decide +kernel
theorem dJ2_getChar_3b067_56 : decode cJ2_getChar_3b067 56 = .ok (.ishl, 1) := by decide +kernel
theorem dJ2_getChar_3b067_57 : decode cJ2_getChar_3b067 57 = .ok (.ior, 1) := by decide +kernel
theorem dJ2_getChar_3b067_58 : decode cJ2_getChar_3b067 58 = .ok (.i2c, 1) := by decide +kernel
theorem dJ2_getChar_3b067_59 : decode cJ2_getChar_3b067 59 = .ok (.ireturn, 1) := by decide +kernel
theorem dJ2_length_9d52b_0 : decode cJ2_length_9d52b 0 = .ok (.aload_n 0, 1) := by decide +kernel
theorem dJ2_length_9d52b_1 : decode cJ2_length_9d52b 1 = .ok (.arraylength, 1) := by decide +kernel
theorem dJ2_length_9d52b_2 : decode cJ2_length_9d52b 2 = .ok (.iconst 1, 1) := by decide +kernel
theorem dJ2_length_9d52b_3 : decode cJ2_length_9d52b 3 = .ok (.ishr, 1) := by decide +kernel
theorem dJ2_length_9d52b_4 : decode cJ2_length_9d52b 4 = .ok (.ireturn, 1) := by decide +kernel
set_option maxRecDepth 20000 in
theorem ggJ2_indexOf_4cfef_J2_indexOfChar_4cfef : GoodIn wsJ2_indexOf_4cfef wsJ2_indexOfChar_4cfef := goodIn_r _ [12, 13, 14, 11, 15, 16, 17, 18, 19, 20, 21, 22, 23, 24, 25, 26, 27, 28, 29, 30, 31, 32, 33, 34, 35, 36] (by decide +kernel) (by decide +kernel)
set_option maxRecDepth 20000 in
theorem gJ2_indexOf_4cfef_J2_indexOfChar_4cfef : GoodIn wsJ2_indexOf_4cfef (va_wsS RJ2 228 yJ2_indexOfChar_4cfef wsJ2_indexOfChar_4cfef) := goodIn_app (goodIn_of _ (by decide +kernel)) ggJ2_indexOf_4cfef_J2_indexOfChar_4cfef
set_option maxRecDepth 20000 in
theorem ggJ2_indexOf_4cfef_J2_indexOfSupplementary_4cfef : GoodIn wsJ2_indexOf_4cfef wsJ2_indexOfSupplementary_4cfef := goodIn_r _ [39, 40, 41, 42, 43, 44, 45, 46, 47, 48, 49, 50, 51, 13, 14, 11, 15, 16, 17, 18, 19, 20, 21, 22, 23, 24, 25, 26, 27, 31, 32, 33, 34, 35, 36] (by decide +kernel) (by decide +kernel)
set_option maxRecDepth 20000 in
theorem gJ2_indexOf_4cfef_J2_indexOfSupplementary_4cfef : GoodIn wsJ2_indexOf_4cfef (va_wsS RJ2 232 yJ2_indexOfSupplementary_4cfef wsJ2_indexOfSupplementary_4cfef) := goodIn_app (goodIn_of _ (by decide +kernel)) ggJ2_indexOf_4cfef_J2_indexOfSupplementary_4cfef
theorem dJ2_indexOf_4cfef_0 : decode cJ2_indexOf_4cfef 0 = .ok (.iload_n 2, 1) := by decide +kernel
theorem dJ2_indexOf_4cfef_1 : decode cJ2_indexOf_4cfef 1 = .ok (.iconst 0, 1) := by decide +kernel
theorem dJ2_indexOf_4cfef_2 : decode cJ2_indexOf_4cfef 2 = .ok (.invokestatic 224, 3) := by decide +kernel
theorem dJ2_indexOf_4cfef_5 : decode cJ2_indexOf_4cfef 5 = .ok (.istore_n 2, 1) := by decide +kernel
theorem dJ2_indexOf_4cfef_6 : decode cJ2_indexOf_4cfef 6 = .ok (.iload_n 3, 1) := by decide +kernel
theorem dJ2_indexOf_4cfef_7 : decode cJ2_indexOf_4cfef 7 = .ok (.aload_n 0, 1) := by decide +kernel
theorem dJ2_indexOf_4cfef_8 : decode cJ2_indexOf_4cfef 8 = .ok (.arraylength, 1) := by decide +kernel
theorem dJ2_indexOf_4cfef_9 : decode cJ2_indexOf_4cfef 9 = .ok (.iconst 1, 1) := by decide +kernel
theorem dJ2_indexOf_4cfef_10 : decode cJ2_indexOf_4cfef 10 = .ok (.ishr, 1) := by decide +kernel
theorem dJ2_indexOf_4cfef_11 : decode cJ2_indexOf_4cfef 11 = .ok (.invokestatic 183, 3) := by decide +kernel
theorem dJ2_indexOf_4cfef_14 : decode cJ2_indexOf_4cfef 14 = .ok (.istore_n 3, 1) := by decide +kernel
theorem dJ2_indexOf_4cfef_15 : decode cJ2_indexOf_4cfef 15 = .ok (.iload_n 2, 1) := by decide +kernel
theorem dJ2_indexOf_4cfef_16 : decode cJ2_indexOf_4cfef 16 = .ok (.iload_n 3, 1) := by decide +kernel
theorem dJ2_indexOf_4cfef_17 : decode cJ2_indexOf_4cfef 17 = .ok (.if_icmp .lt 5, 3) := by decide +kernel
theorem dJ2_indexOf_4cfef_20 : decode cJ2_indexOf_4cfef 20 = .ok (.iconst (-1), 1) := by decide +kernel
theorem dJ2_indexOf_4cfef_21 : decode cJ2_indexOf_4cfef 21 = .ok (.ireturn, 1) := by decide +kernel
theorem dJ2_indexOf_4cfef_22 : decode cJ2_indexOf_4cfef 22 = .ok (.iload_n 1, 1) := by decide +kernel
theorem dJ2_indexOf_4cfef_23 : decode cJ2_indexOf_4cfef 23 = .ok (.ldc 227, 2) := by decide +kernel
theorem dJ2_indexOf_4cfef_25 : decode cJ2_indexOf_4cfef 25 = .ok (.if_icmp .ge 11, 3) := by decide +kernel
theorem dJ2_indexOf_4cfef_28 : decode cJ2_indexOf_4cfef 28 = .ok (.aload_n 0, 1) := by decide +kernel
theorem dJ2_indexOf_4cfef_29 : decode cJ2_indexOf_4cfef 29 = .ok (.iload_n 1, 1) := by decide +kernel
theorem dJ2_indexOf_4cfef_30 : decode cJ2_indexOf_4cfef 30 = .ok (.iload_n 2, 1) := by decide +kernel
theorem dJ2_indexOf_4cfef_31 : decode cJ2_indexOf_4cfef 31 = .ok (.iload_n 3, 1) := by decide +kernel
theorem dJ2_indexOf_4cfef_32 : decode cJ2_indexOf_4cfef 32 = .ok (.invokestatic 228, 3) := by decide +kernel
theorem dJ2_indexOf_4cfef_35 : decode cJ2_indexOf_4cfef 35 = .ok (.ireturn, 1) := by decide +kernel
theorem dJ2_indexOf_4cfef_36 : decode cJ2_indexOf_4cfef 36 = .ok (.aload_n 0, 1) := by decide +kernel
theorem dJ2_indexOf_4cfef_37 : decode cJ2_indexOf_4cfef 37 = .ok (.iload_n 1, 1) := by decide +kernel
theorem dJ2_indexOf_4cfef_38 : decode cJ2_indexOf_4cfef 38 = .ok (.iload_n 2, 1) := by decide +kernel
theorem dJ2_indexOf_4cfef_39 : decode cJ2_indexOf_4cfef 39 = .ok (.iload_n 3, 1) := by decide +kernel
theorem dJ2_indexOf_4cfef_40 : decode cJ2_indexOf_4cfef 40 = .ok (.invokestatic 232, 3) := by decide +kernel
theorem dJ2_indexOf_4cfef_43 : decode cJ2_indexOf_4cfef 43 = .ok (.ireturn, 1) := by decide +kernel
set_option maxRecDepth 20000 in
theorem ggJ2_indexOfChar_4cfef_J2_checkBoundsBeginEnd_d044e : GoodIn wsJ2_indexOfChar_4cfef wsJ2_checkBoundsBeginEnd_d044e := goodIn_r _ [4, 5, 6, 3, 7, 8, 9, 10, 11, 12, 13, 14, 15, 16] (by decide +kernel) (by decide +kernel)
set_option maxRecDepth 20000 in
theorem gJ2_indexOfChar_4cfef_J2_checkBoundsBeginEnd_d044e : GoodIn wsJ2_indexOfChar_4cfef (va_wsS RJ2 96 yJ2_checkBoundsBeginEnd_d044e wsJ2_checkBoundsBeginEnd_d044e) := goodIn_app (goodIn_of _ (by decide +kernel)) ggJ2_indexOfChar_4cfef_J2_checkBoundsBeginEnd_d044e
set_option maxRecDepth 20000 in
theorem ggJ2_indexOfChar_4cfef_J2_indexOfCharUnsafe_4cfef : GoodIn wsJ2_indexOfChar_4cfef wsJ2_indexOfCharUnsafe_4cfef := goodIn_r _ [19, 20, 21, 3, 22, 23, 24, 25, 5, 6, 7] (by decide +kernel) (by decide +kernel)
set_option maxRecDepth 20000 in
theorem gJ2_indexOfChar_4cfef_J2_indexOfCharUnsafe_4cfef : GoodIn wsJ2_indexOfChar_4cfef (va_wsS RJ2 244 yJ2_indexOfCharUnsafe_4cfef wsJ2_indexOfCharUnsafe_4cfef) := goodIn_app (goodIn_of _ (by decide +kernel)) ggJ2_indexOfChar_4cfef_J2_indexOfCharUnsafe_4cfef
theorem dJ2_indexOfChar_4cfef_0 : decode cJ2_indexOfChar_4cfef 0 = .ok (.iload_n 2, 1) := by decide +kernel
theorem dJ2_indexOfChar_4cfef_1 : decode cJ2_indexOfChar_4cfef 1 = .ok (.iload_n 3, 1) := by decide +kernel
theorem dJ2_indexOfChar_4cfef_2 : decode cJ2_indexOfChar_4cfef 2 = .ok (.aload_n 0, 1) := by decide +kernel
theorem dJ2_indexOfChar_4cfef_3 : decode cJ2_indexOfChar_4cfef 3 = .ok (.invokestatic 96, 3) := by decide +kernel
theorem dJ2_indexOfChar_4cfef_6 : decode cJ2_indexOfChar_4cfef 6 = .ok (.aload_n 0, 1) := by decide +kernel
theorem dJ2_indexOfChar_4cfef_7 : decode cJ2_indexOfChar_4cfef 7 = .ok (.iload_n 1, 1) := by decide +kernel
theorem dJ2_indexOfChar_4cfef_8 : decode cJ2_indexOfChar_4cfef 8 = .ok (.iload_n 2, 1) := by decide +kernel
theorem dJ2_indexOfChar_4cfef_9 : decode cJ2_indexOfChar_4cfef 9 = .ok (.iload_n 3, 1) := by decide +kernel
theorem dJ2_indexOfChar_4cfef_10 : decode cJ2_indexOfChar_4cfef 10 = .ok (.invokestatic 244, 3) := by decide +kernel
theorem dJ2_indexOfChar_4cfef_13 : decode cJ2_indexOfChar_4cfef 13 = .ok (.ireturn, 1) := by decide +kernel
set_option maxRecDepth 20000 in
theorem ggJ2_indexOfCharUnsafe_4cfef_J2_getChar_3b067 : GoodIn wsJ2_indexOfCharUnsafe_4cfef wsJ2_getChar_3b067 := goodIn_r _ [4, 5, 6, 7, 8, 9, 3, 10] (by decide +kernel) (by decide +kernel)
set_option maxRecDepth 20000 in
theorem gJ2_indexOfCharUnsafe_4cfef_J2_getChar_3b067 : GoodIn wsJ2_indexOfCharUnsafe_4cfef (va_wsS RJ2 71 yJ2_getChar_3b067 wsJ2_getChar_3b067) := goodIn_app (goodIn_of _ (by decide +kernel)) ggJ2_indexOfCharUnsafe_4cfef_J2_getChar_3b067
theorem dJ2_indexOfCharUnsafe_4cfef_0 : decode cJ2_indexOfCharUnsafe_4cfef 0 = .ok (.iload_n 2, 1) := by decide +kernel
theorem dJ2_indexOfCharUnsafe_4cfef_1 : decode cJ2_indexOfCharUnsafe_4cfef 1 = .ok (.istore 4, 2) := by decide +kernel
theorem dJ2_indexOfCharUnsafe_4cfef_3 : decode cJ2_indexOfCharUnsafe_4cfef 3 = .ok (.iload 4, 2) := by decide +kernel
theorem dJ2_indexOfCharUnsafe_4cfef_5 : decode cJ2_indexOfCharUnsafe_4cfef 5 = .ok (.iload_n 3, 1) := by decide +kernel
theorem dJ2_indexOfCharUnsafe_4cfef_6 : decode cJ2_indexOfCharUnsafe_4cfef 6 = .ok (.if_icmp .ge 22, 3) := by decide +kernel
theorem dJ2_indexOfCharUnsafe_4cfef_9 : decode cJ2_indexOfCharUnsafe_4cfef 9 = .ok (.aload_n 0, 1) := by decide +kernel
theorem dJ2_indexOfCharUnsafe_4cfef_10 : decode cJ2_indexOfCharUnsafe_4cfef 10 = .ok (.iload 4, 2) := by decide +kernel
theorem dJ2_indexOfCharUnsafe_4cfef_12 : decode cJ2_indexOfCharUnsafe_4cfef 12 = .ok (.invokestatic 71, 3) := by decide +kernel
theorem dJ2_indexOfCharUnsafe_4cfef_15 : decode cJ2_indexOfCharUnsafe_4cfef 15 = .ok (.iload_n 1, 1) := by decide +kernel
theorem dJ2_indexOfCharUnsafe_4cfef_16 : decode cJ2_indexOfCharUnsafe_4cfef 16 = .ok (.if_icmp .ne 6, 3) := by decide +kernel
theorem dJ2_indexOfCharUnsafe_4cfef_19 : decode cJ2_indexOfCharUnsafe_4cfef 19 = .ok (.iload 4, 2) := by decide +kernel
theorem dJ2_indexOfCharUnsafe_4cfef_21 : decode cJ2_indexOfCharUnsafe_4cfef 21 = .ok (.ireturn, 1) := by decide +kernel
theorem dJ2_indexOfCharUnsafe_4cfef_22 : decode cJ2_indexOfCharUnsafe_4cfef 22 = .ok (.iinc 4 1, 3) := by decide +kernel
theorem dJ2_indexOfCharUnsafe_4cfef_25 : decode cJ2_indexOfCharUnsafe_4cfef 25 = .ok (.goto (-22), 3) := by decide +kernel
theorem dJ2_indexOfCharUnsafe_4cfef_28 : decode cJ2_indexOfCharUnsafe_4cfef 28 = .ok (.iconst (-1), 1) := by decide +kernel
theorem dJ2_indexOfCharUnsafe_4cfef_29 : decode cJ2_indexOfCharUnsafe_4cfef 29 = .ok (.ireturn, 1) := by decide +kernel
set_option maxRecDepth 20000 in
theorem ggJ2_indexOfSupplementary_4cfef_J11_isValidCodePoint_9a6ad : GoodIn wsJ2_indexOfSupplementary_4cfef wsJ11_isValidCodePoint_9a6ad := goodIn_r _ [4] (by decide +kernel) (by decide +kernel)
set_option maxRecDepth 20000 in
theorem gJ2_indexOfSupplementary_4cfef_J11_isValidCodePoint_9a6ad : GoodIn wsJ2_indexOfSupplementary_4cfef (va_wsS RJ2 164 yJ11_isValidCodePoint_9a6ad wsJ11_isValidCodePoint_9a6ad) := goodIn_app (goodIn_of _ (by decide +kernel)) ggJ2_indexOfSupplementary_4cfef_J11_isValidCodePoint_9a6ad
set_option maxRecDepth 20000 in
theorem ggJ2_indexOfSupplementary_4cfef_J11_highSurrogate_5068e : GoodIn wsJ2_indexOfSupplementary_4cfef wsJ11_highSurrogate_5068e := goodIn_r _ [7, 8] (by decide +kernel) (by decide +kernel)
set_option maxRecDepth 20000 in
theorem gJ2_indexOfSupplementary_4cfef_J11_highSurrogate_5068e : GoodIn wsJ2_indexOfSupplementary_4cfef (va_wsS RJ2 157 yJ11_highSurrogate_5068e wsJ11_highSurrogate_5068e) := goodIn_app (goodIn_of _ (by decide +kernel)) ggJ2_indexOfSupplementary_4cfef_J11_highSurrogate_5068e
set_option maxRecDepth 20000 in
theorem ggJ2_indexOfSupplementary_4cfef_J11_lowSurrogate_5068e : GoodIn wsJ2_indexOfSupplementary_4cfef wsJ11_lowSurrogate_5068e := goodIn_r _ [11, 12] (by decide +kernel) (by decide +kernel)
set_option maxRecDepth 20000 in
theorem gJ2_indexOfSupplementary_4cfef_J11_lowSurrogate_5068e : GoodIn wsJ2_indexOfSupplementary_4cfef (va_wsS RJ2 161 yJ11_lowSurrogate_5068e wsJ11_lowSurrogate_5068e) := goodIn_app (goodIn_of _ (by decide +kernel)) ggJ2_indexOfSupplementary_4cfef_J11_lowSurrogate_5068e
set_option maxRecDepth 20000 in
theorem ggJ2_indexOfSupplementary_4cfef_J2_checkBoundsBeginEnd_d044e : GoodIn wsJ2_indexOfSupplementary_4cfef wsJ2_checkBoundsBeginEnd_d044e := goodIn_r _ [16, 17, 18, 15, 19, 20, 21, 22, 23, 24, 25, 26, 27, 28] (by decide +kernel) (by decide +kernel)
set_option maxRecDepth 20000 in
theorem gJ2_indexOfSupplementary_4cfef_J2_checkBoundsBeginEnd_d044e : GoodIn wsJ2_indexOfSupplementary_4cfef (va_wsS RJ2 96 yJ2_checkBoundsBeginEnd_d044e wsJ2_checkBoundsBeginEnd_d044e) := goodIn_app (goodIn_of _ (by decide +kernel)) ggJ2_indexOfSupplementary_4cfef_J2_checkBoundsBeginEnd_d044e
set_option maxRecDepth 20000 in
theorem ggJ2_indexOfSupplementary_4cfef_J2_getChar_3b067 : GoodIn wsJ2_indexOfSupplementary_4cfef wsJ2_getChar_3b067 := goodIn_r _ [31, 32, 33, 34, 17, 18, 15, 19] (by decide +kernel) (by decide +kernel)
set_option maxRecDepth 20000 in
theorem gJ2_indexOfSupplementary_4cfef_J2_getChar_3b067 : GoodIn wsJ2_indexOfSupplementary_4cfef (va_wsS RJ2 71 yJ2_getChar_3b067 wsJ2_getChar_3b067) := goodIn_app (goodIn_of _ (by decide +kernel)) ggJ2_indexOfSupplementary_4cfef_J2_getChar_3b067
theorem dJ2_indexOfSupplementary_4cfef_0 : decode cJ2_indexOfSupplementary_4cfef 0 = .ok (.iload_n 1, 1) := by decide +kernel
theorem dJ2_indexOfSupplementary_4cfef_1 : decode cJ2_indexOfSupplementary_4cfef 1 = .ok (.invokestatic 164, 3) := by decide +kernel
theorem dJ2_indexOfSupplementary_4cfef_4 : decode cJ2_indexOfSupplementary_4cfef 4 = .ok (.ifCond .eq 65, 3) := by decide +kernel
theorem dJ2_indexOfSupplementary_4cfef_7 : decode cJ2_indexOfSupplementary_4cfef 7 = .ok (.iload_n 1, 1) := by decide +kernel
theorem dJ2_indexOfSupplementary_4cfef_8 : decode cJ2_indexOfSupplementary_4cfef 8 = .ok (.invokestatic 157, 3) := by decide +kernel
theorem dJ2_indexOfSupplementary_4cfef_11 : decode cJ2_indexOfSupplementary_4cfef 11 = .ok (.istore 4, 2) := by decide +kernel
theorem dJ2_indexOfSupplementary_4cfef_13 : decode cJ2_indexOfSupplementary_4cfef 13 = .ok (.iload_n 1, 1) := by decide +kernel
theorem dJ2_indexOfSupplementary_4cfef_14 : decode cJ2_indexOfSupplementary_4cfef 14 = .ok (.invokestatic 161, 3) := by decide +kernel
theorem dJ2_indexOfSupplementary_4cfef_17 : decode cJ2_indexOfSupplementary_4cfef 17 = .ok (.istore 5, 2) := by decide +kernel
theorem dJ2_indexOfSupplementary_4cfef_19 : decode cJ2_indexOfSupplementary_4cfef 19 = .ok (.iload_n 2, 1) := by decide +kernel
theorem dJ2_indexOfSupplementary_4cfef_20 : decode cJ2_indexOfSupplementary_4cfef 20 = .ok (.iload_n 3, 1) := by decide +kernel
theorem dJ2_indexOfSupplementary_4cfef_21 : decode cJ2_indexOfSupplementary_4cfef 21 = .ok (.aload_n 0, 1) := by decide +kernel
theorem dJ2_indexOfSupplementary_4cfef_22 : decode cJ2_indexOfSupplementary_4cfef 22 = .ok (.invokestatic 96, 3) := by decide +kernel
theorem dJ2_indexOfSupplementary_4cfef_25 : decode cJ2_indexOfSupplementary_4cfef 25 = .ok (.iload_n 2, 1) := by decide +kernel
theorem dJ2_indexOfSupplementary_4cfef_26 : decode cJ2_indexOfSupplementary_4cfef 26 = .ok (.istore 6, 2) := by decide +kernel
theorem dJ2_indexOfSupplementary_4cfef_28 : decode cJ2_indexOfSupplementary_4cfef 28 = .ok (.iload 6, 2) := by decide +kernel
theorem dJ2_indexOfSupplementary_4cfef_30 : decode cJ2_indexOfSupplementary_4cfef 30 = .ok (.iload_n 3, 1) := by decide +kernel
theorem dJ2_indexOfSupplementary_4cfef_31 : decode cJ2_indexOfSupplementary_4cfef 31 = .ok (.iconst 1, 1) := by decide +kernel
theorem dJ2_indexOfSupplementary_4cfef_32 : decode cJ2_indexOfSupplementary_4cfef 32 = .ok (.isub, 1) := by decide +kernel
theorem dJ2_indexOfSupplementary_4cfef_33 : decode cJ2_indexOfSupplementary_4cfef 33 = .ok (.if_icmp .ge 36, 3) := by decide +kernel
theorem dJ2_indexOfSupplementary_4cfef_36 : decode cJ2_indexOfSupplementary_4cfef 36 = .ok (.aload_n 0, 1) := by decide +kernel
theorem dJ2_indexOfSupplementary_4cfef_37 : decode cJ2_indexOfSupplementary_4cfef 37 = .ok (.iload 6, 2) := by decide +kernel
theorem dJ2_indexOfSupplementary_4cfef_39 : decode cJ2_indexOfSupplementary_4cfef 39 = .ok (.invokestatic 71, 3) := by decide +kernel
theorem dJ2_indexOfSupplementary_4cfef_42 : decode cJ2_indexOfSupplementary_4cfef 42 = .ok (.iload 4, 2) := by decide +kernel
theorem dJ2_indexOfSupplementary_4cfef_44 : decode cJ2_indexOfSupplementary_4cfef 44 = .ok (.if_icmp .ne 19, 3) := by decide +kernel
theorem dJ2_indexOfSupplementary_4cfef_47 : decode cJ2_indexOfSupplementary_4cfef 47 = .ok (.aload_n 0, 1) := by decide +kernel
theorem dJ2_indexOfSupplementary_4cfef_48 : decode cJ2_indexOfSupplementary_4cfef 48 = .ok (.iload 6, 2) := by decide +kernel
theorem dJ2_indexOfSupplementary_4cfef_50 : decode cJ2_indexOfSupplementary_4cfef 50 = .ok (.iconst 1, 1) := by decide +kernel
theorem dJ2_indexOfSupplementary_4cfef_51 : decode cJ2_indexOfSupplementary_4cfef 51 = .ok (.iadd, 1) := by decide +kernel
theorem dJ2_indexOfSupplementary_4cfef_52 : decode cJ2_indexOfSupplementary_4cfef 52 = .ok (.invokestatic 71, 3) := by decide +kernel
theorem dJ2_indexOfSupplementary_4cfef_55 : decode cJ2_indexOfSupplementary_4cfef 55 = .ok (.iload 5, 2) := by decide +kernel
theorem dJ2_indexOfSupplementary_4cfef_57 : decode cJ2_indexOfSupplementary_4cfef 57 = .ok (.if_icmp .ne 6, 3) := by decide +kernel
theorem dJ2_indexOfSupplementary_4cfef_60 : decode cJ2_indexOfSupplementary_4cfef 60 = .ok (.iload 6, 2) := by decide +kernel
theorem dJ2_indexOfSupplementary_4cfef_62 : decode cJ2_indexOfSupplementary_4cfef 62 = .ok (.ireturn, 1) := by decide +kernel
theorem dJ2_indexOfSupplementary_4cfef_63 : decode cJ2_indexOfSupplementary_4cfef 63 = .ok (.iinc 6 1, 3) := by decide +kernel
theorem dJ2_indexOfSupplementary_4cfef_66 : decode cJ2_indexOfSupplementary_4cfef 66 = .ok (.goto (-38), 3) := by decide +kernel
theorem dJ2_indexOfSupplementary_4cfef_69 : decode cJ2_indexOfSupplementary_4cfef 69 = .ok (.iconst (-1), 1) := by decide +kernel
theorem dJ2_indexOfSupplementary_4cfef_70 : decode cJ2_indexOfSupplementary_4cfef 70 = .ok (.ireturn, 1) := by decide +kernel
set_option maxRecDepth 20000 in
theorem ggJ2_checkBoundsBeginEnd_d044e_J2_length_9d52b : GoodIn wsJ2_checkBoundsBeginEnd_d044e wsJ2_length_9d52b := goodIn_r _ [4] (by decide +kernel) (by decide +kernel)
set_option maxRecDepth 20000 in
theorem gJ2_checkBoundsBeginEnd_d044e_J2_length_9d52b : GoodIn wsJ2_checkBoundsBeginEnd_d044e (va_wsS RJ2 48 yJ2_length_9d52b wsJ2_length_9d52b) := goodIn_app (goodIn_of _ (by decide +kernel)) ggJ2_checkBoundsBeginEnd_d044e_J2_length_9d52b
set_option maxRecDepth 20000 in
theorem ggJ2_checkBoundsBeginEnd_d044e_J0_checkBoundsBeginEnd_23922 : GoodIn wsJ2_checkBoundsBeginEnd_d044e wsJ0_checkBoundsBeginEnd_23922 := goodIn_r _ [8, 9, 10, 11, 12, 13] (by decide +kernel) (by decide +kernel)
set_option maxRecDepth 20000 in
theorem gJ2_checkBoundsBeginEnd_d044e_J0_checkBoundsBeginEnd_23922 : GoodIn wsJ2_checkBoundsBeginEnd_d044e (va_wsS RJ2 241 yJ0_checkBoundsBeginEnd_23922 wsJ0_checkBoundsBeginEnd_23922) := goodIn_app (goodIn_of _ (by decide +kernel)) ggJ2_checkBoundsBeginEnd_d044e_J0_checkBoundsBeginEnd_23922
theorem dJ2_checkBoundsBeginEnd_d044e_0 : decode cJ2_checkBoundsBeginEnd_d044e 0 = .ok (.iload_n 0, 1) := by decide +kernel
theorem dJ2_checkBoundsBeginEnd_d044e_1 : decode cJ2_checkBoundsBeginEnd_d044e 1 = .ok (.iload_n 1, 1) := by decide +kernel
theorem dJ2_checkBoundsBeginEnd_d044e_2 : decode cJ2_checkBoundsBeginEnd_d044e 2 = .ok (.aload_n 2, 1) := by decide +kernel
theorem dJ2_checkBoundsBeginEnd_d044e_3 : decode cJ2_checkBoundsBeginEnd_d044e 3 = .ok (.invokestatic 48, 3) := by decide +kernel
theorem dJ2_checkBoundsBeginEnd_d044e_6 : decode cJ2_checkBoundsBeginEnd_d044e 6 = .ok (.invokestatic 241, 3) := by decide +kernel
theorem dJ2_checkBoundsBeginEnd_d044e_9 : decode cJ2_checkBoundsBeginEnd_d044e 9 = .ok (.return_, 1) := by decide +kernel
theorem dJ3_checkFromToIndex_8c36e_0 : decode cJ3_checkFromToIndex_8c36e 0 = .ok (.iload_n 0, 1) := by decide +kernel
theorem dJ3_checkFromToIndex_8c36e_1 : decode cJ3_checkFromToIndex_8c36e 1 = .ok (.ifCond .lt 13, 3) := by decide +kernel
theorem dJ3_checkFromToIndex_8c36e_4 : decode cJ3_checkFromToIndex_8c36e 4 = .ok (.iload_n 0, 1) := by decide +kernel
theorem dJ3_checkFromToIndex_8c36e_5 : decode cJ3_checkFromToIndex_8c36e 5 = .ok (.iload_n 1, 1) := by decide +kernel
theorem dJ3_checkFromToIndex_8c36e_6 : decode cJ3_checkFromToIndex_8c36e 6 = .ok (.if_icmp .gt 8, 3) := by decide +kernel
theorem dJ3_checkFromToIndex_8c36e_9 : decode cJ3_checkFromToIndex_8c36e 9 = .ok (.iload_n 1, 1) := by decide +kernel
theorem dJ3_checkFromToIndex_8c36e_10 : decode cJ3_checkFromToIndex_8c36e 10 = .ok (.iload_n 2, 1) := by decide +kernel
theorem dJ3_checkFromToIndex_8c36e_11 : decode cJ3_checkFromToIndex_8c36e 11 = .ok (.if_icmp .le 11, 3) := by decide +kernel
theorem dJ3_checkFromToIndex_8c36e_14 : decode cJ3_checkFromToIndex_8c36e 14 = .ok (.aload_n 3, 1) := by decide +kernel
theorem dJ3_checkFromToIndex_8c36e_15 : decode cJ3_checkFromToIndex_8c36e 15 = .ok (.iload_n 0, 1) := by decide +kernel
theorem dJ3_checkFromToIndex_8c36e_16 : decode cJ3_checkFromToIndex_8c36e 16 = .ok (.iload_n 1, 1) := by decide +kernel
theorem dJ3_checkFromToIndex_8c36e_17 : decode cJ3_checkFromToIndex_8c36e 17 = .ok (.iload_n 2, 1) := by decide +kernel
theorem dJ3_checkFromToIndex_8c36e_18 : decode cJ3_checkFromToIndex_8c36e 18 = .ok (.invokestatic 99, 3) := by decide +kernel
theorem dJ3_checkFromToIndex_8c36e_21 : decode cJ3_checkFromToIndex_8c36e 21 = .ok (.athrow, 1) := by decide +kernel
theorem dJ3_checkFromToIndex_8c36e_22 : decode cJ3_checkFromToIndex_8c36e 22 = .ok (.iload_n 0, 1) := by decide +kernel
theorem dJ3_checkFromToIndex_8c36e_23 : decode cJ3_checkFromToIndex_8c36e 23 = .ok (.ireturn, 1) := by decide +kernel
abbrev vwCl : List vw_C := [(RX0, TX0, 6), (RX1, TX1, 6), (RX2, TX2, 4), (RX3, TX3, 8), (RX4, TX4, 4), (RX5, TX5, 2), (RX6, TX6, 3), (RX7, TX7, 2), (RX8, TX8, 4), (RX9, TX9, 4), (RX10, TX10, 8), (RX11, TX11, 38)]
