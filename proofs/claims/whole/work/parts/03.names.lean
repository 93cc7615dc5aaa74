def RX0 : String := "BeastsChoose$Bringing"
def TX0 : u_T := fun k => match k with
  | 0 => ("BeastsChoose$Bringing", "together", "I", false)
  | 1 => ("BeastsChoose$Bringing", "guestFor", "[I", true)
  | _ => ("BeastsChoose$Bringing", "most", "[[I", true)
def tyX0 : Nat → FieldType := fun k => match k with
  | 0 => .int
  | 1 => .array .int
  | _ => .array (.array .int)
abbrev wsX00 : List Cond := u_ws RX0 TX0 3
theorem nmX0 : ∀ a, a < 3 → ∀ b, b < 3 → a ≠ b → (TX0 a).2.1 ≠ (TX0 b).2.1 := by decide +kernel
theorem tyX0_ok : ∀ k, k < 3 → parseFieldDescriptor (TX0 k).2.2.1 = some (tyX0 k) := by decide +kernel
abbrev cX0_init : ByteArray := prog_2_method_1_code
def yX0_init : MethodName := ⟨RX0, "<init>", "()V"⟩
abbrev cX0_find : ByteArray := prog_2_method_2_code
def yX0_find : MethodName := ⟨RX0, "find", "(LBeastsChoose$Zoo;[I)V"⟩
abbrev cX0_mostFrom : ByteArray := prog_2_method_3_code
def yX0_mostFrom : MethodName := ⟨RX0, "mostFrom", "(LBeastsChoose$Zoo;[III)I"⟩
abbrev cX0_canBring : ByteArray := prog_2_method_4_code
def yX0_canBring : MethodName := ⟨RX0, "canBring", "(LBeastsChoose$Zoo;[IIII)Z"⟩
abbrev cX0_with : ByteArray := prog_2_method_5_code
def yX0_with : MethodName := ⟨RX0, "with", "([IIII)I"⟩
abbrev cX0_follow : ByteArray := prog_2_method_6_code
def yX0_follow : MethodName := ⟨RX0, "follow", "(LBeastsChoose$Zoo;[I)V"⟩
def RX1 : String := "BeastsChoose$Formula"
def TX1 : u_T := fun k => match k with
  | 0 => ("BeastsChoose$Formula", "code", "[I", true)
  | 1 => ("BeastsChoose$Formula", "length", "I", false)
  | _ => ("BeastsChoose$Formula", "stack", "[I", true)
def tyX1 : Nat → FieldType := fun k => match k with
  | 0 => .array .int
  | 1 => .int
  | _ => .array .int
abbrev wsX10 : List Cond := u_ws RX1 TX1 3
theorem nmX1 : ∀ a, a < 3 → ∀ b, b < 3 → a ≠ b → (TX1 a).2.1 ≠ (TX1 b).2.1 := by decide +kernel
theorem tyX1_ok : ∀ k, k < 3 → parseFieldDescriptor (TX1 k).2.2.1 = some (tyX1 k) := by decide +kernel
abbrev cX1_init : ByteArray := prog_3_method_1_code
def yX1_init : MethodName := ⟨RX1, "<init>", "()V"⟩
abbrev cX1_add : ByteArray := prog_3_method_2_code
def yX1_add : MethodName := ⟨RX1, "add", "(II)V"⟩
abbrev cX1_valueOf : ByteArray := prog_3_method_3_code
def yX1_valueOf : MethodName := ⟨RX1, "valueOf", "([I)I"⟩
abbrev cX1_operandsOf : ByteArray := prog_3_method_4_code
def yX1_operandsOf : MethodName := ⟨RX1, "operandsOf", "(I)I"⟩
abbrev cX1_pushed : ByteArray := prog_3_method_5_code
def yX1_pushed : MethodName := ⟨RX1, "pushed", "(II[I)I"⟩
abbrev cX1_joined : ByteArray := prog_3_method_6_code
def yX1_joined : MethodName := ⟨RX1, "joined", "(III)I"⟩
def RX2 : String := "BeastsChoose$Guesses"
def TX2 : u_T := fun k => match k with
  | 0 => ("BeastsChoose$Guesses", "toldRows", "I", false)
  | 1 => ("BeastsChoose$Guesses", "leftCount", "I", false)
  | 2 => ("BeastsChoose$Guesses", "pair", "[I", true)
  | 3 => ("BeastsChoose$Guesses", "told", "[I", true)
  | _ => ("BeastsChoose$Guesses", "left", "[I", true)
def tyX2 : Nat → FieldType := fun k => match k with
  | 0 => .int
  | 1 => .int
  | 2 => .array .int
  | 3 => .array .int
  | _ => .array .int
abbrev wsX20 : List Cond := u_ws RX2 TX2 5
theorem nmX2 : ∀ a, a < 5 → ∀ b, b < 5 → a ≠ b → (TX2 a).2.1 ≠ (TX2 b).2.1 := by decide +kernel
theorem tyX2_ok : ∀ k, k < 5 → parseFieldDescriptor (TX2 k).2.2.1 = some (tyX2 k) := by decide +kernel
abbrev cX2_init : ByteArray := prog_4_method_1_code
def yX2_init : MethodName := ⟨RX2, "<init>", "()V"⟩
abbrev cX2_hear : ByteArray := prog_4_method_2_code
def yX2_hear : MethodName := ⟨RX2, "hear", "(LBeastsChoose$Tape;)V"⟩
abbrev cX2_gather : ByteArray := prog_4_method_3_code
def yX2_gather : MethodName := ⟨RX2, "gather", "([I)V"⟩
abbrev cX2_fits : ByteArray := prog_4_method_4_code
def yX2_fits : MethodName := ⟨RX2, "fits", "(I[I)Z"⟩
abbrev cX2_lead : ByteArray := prog_4_method_5_code
def yX2_lead : MethodName := ⟨RX2, "lead", "(I[III)I"⟩
abbrev cX2_digit : ByteArray := prog_4_method_6_code
def yX2_digit : MethodName := ⟨RX2, "digit", "(II)I"⟩
abbrev cX2_least : ByteArray := prog_4_method_7_code
def yX2_least : MethodName := ⟨RX2, "least", "(I)I"⟩
abbrev cX2_greatest : ByteArray := prog_4_method_8_code
def yX2_greatest : MethodName := ⟨RX2, "greatest", "(I)I"⟩
abbrev cX2_findPair : ByteArray := prog_4_method_9_code
def yX2_findPair : MethodName := ⟨RX2, "findPair", "(I[I)V"⟩
abbrev cX2_mostLeft : ByteArray := prog_4_method_10_code
def yX2_mostLeft : MethodName := ⟨RX2, "mostLeft", "([III)I"⟩
def RX3 : String := "BeastsChoose$Image"
def TX3 : u_T := fun k => match k with
  | 0 => ("BeastsChoose$Image", "bytes", "[I", true)
  | 1 => ("BeastsChoose$Image", "length", "I", false)
  | 2 => ("BeastsChoose$Image", "source", "[I", false)
  | 3 => ("BeastsChoose$Image", "at", "I", false)
  | _ => ("BeastsChoose$Image", "isSound", "Z", false)
def tyX3 : Nat → FieldType := fun k => match k with
  | 0 => .array .int
  | 1 => .int
  | 2 => .array .int
  | 3 => .int
  | _ => .boolean
abbrev wsX30 : List Cond := u_ws RX3 TX3 5
theorem nmX3 : ∀ a, a < 5 → ∀ b, b < 5 → a ≠ b → (TX3 a).2.1 ≠ (TX3 b).2.1 := by decide +kernel
theorem tyX3_ok : ∀ k, k < 5 → parseFieldDescriptor (TX3 k).2.2.1 = some (tyX3 k) := by decide +kernel
abbrev cX3_init : ByteArray := prog_5_method_1_code
def yX3_init : MethodName := ⟨RX3, "<init>", "()V"⟩
abbrev cX3_sizeFor : ByteArray := prog_5_method_2_code
def yX3_sizeFor : MethodName := ⟨RX3, "sizeFor", "(LBeastsChoose$Zoo;)I"⟩
abbrev cX3_check : ByteArray := prog_5_method_3_code
def yX3_check : MethodName := ⟨RX3, "check", "([II)I"⟩
abbrev cX3_write : ByteArray := prog_5_method_4_code
def yX3_write : MethodName := ⟨RX3, "write", "(LBeastsChoose$Zoo;LBeastsChoose$State;)V"⟩
abbrev cX3_put : ByteArray := prog_5_method_5_code
def yX3_put : MethodName := ⟨RX3, "put", "(I)V"⟩
abbrev cX3_putPair : ByteArray := prog_5_method_6_code
def yX3_putPair : MethodName := ⟨RX3, "putPair", "(I)V"⟩
abbrev cX3_putTriple : ByteArray := prog_5_method_7_code
def yX3_putTriple : MethodName := ⟨RX3, "putTriple", "([II)V"⟩
abbrev cX3_read : ByteArray := prog_5_method_8_code
def yX3_read : MethodName := ⟨RX3, "read", "(LBeastsChoose$Tape;LBeastsChoose$Zoo;LBeastsChoose$State;)Z"⟩
abbrev cX3_takeByte : ByteArray := prog_5_method_9_code
def yX3_takeByte : MethodName := ⟨RX3, "takeByte", "(I)I"⟩
abbrev cX3_takePair : ByteArray := prog_5_method_10_code
def yX3_takePair : MethodName := ⟨RX3, "takePair", "(I)I"⟩
abbrev cX3_takeTriple : ByteArray := prog_5_method_11_code
def yX3_takeTriple : MethodName := ⟨RX3, "takeTriple", "([II)V"⟩
def RX4 : String := "BeastsChoose$Keeper"
def TX4 : u_T := fun k => match k with
  | 0 => ("BeastsChoose$Keeper", "likings", "[I", true)
  | 1 => ("BeastsChoose$Keeper", "asked", "[I", true)
  | 2 => ("BeastsChoose$Keeper", "dressed", "[I", true)
  | _ => ("BeastsChoose$Keeper", "scene", "[I", true)
def tyX4 : Nat → FieldType := fun k => match k with
  | 0 => .array .int
  | 1 => .array .int
  | 2 => .array .int
  | _ => .array .int
abbrev wsX40 : List Cond := u_ws RX4 TX4 4
theorem nmX4 : ∀ a, a < 4 → ∀ b, b < 4 → a ≠ b → (TX4 a).2.1 ≠ (TX4 b).2.1 := by decide +kernel
theorem tyX4_ok : ∀ k, k < 4 → parseFieldDescriptor (TX4 k).2.2.1 = some (tyX4 k) := by decide +kernel
abbrev cX4_init : ByteArray := prog_6_method_1_code
def yX4_init : MethodName := ⟨RX4, "<init>", "()V"⟩
abbrev cX4_liking : ByteArray := prog_6_method_2_code
def yX4_liking : MethodName := ⟨RX4, "liking", "(LBeastsChoose$Zoo;LBeastsChoose$State;II)I"⟩
abbrev cX4_look : ByteArray := prog_6_method_3_code
def yX4_look : MethodName := ⟨RX4, "look", "(LBeastsChoose$State;II)V"⟩
abbrev cX4_mayAsk : ByteArray := prog_6_method_4_code
def yX4_mayAsk : MethodName := ⟨RX4, "mayAsk", "(LBeastsChoose$Zoo;LBeastsChoose$State;III)Z"⟩
abbrev cX4_canMeet : ByteArray := prog_6_method_5_code
def yX4_canMeet : MethodName := ⟨RX4, "canMeet", "(LBeastsChoose$Zoo;LBeastsChoose$State;II)Z"⟩
abbrev cX4_weigh : ByteArray := prog_6_method_6_code
def yX4_weigh : MethodName := ⟨RX4, "weigh", "(LBeastsChoose$Zoo;LBeastsChoose$State;)V"⟩
abbrev cX4_weighGuest : ByteArray := prog_6_method_7_code
def yX4_weighGuest : MethodName := ⟨RX4, "weighGuest", "(LBeastsChoose$Zoo;LBeastsChoose$State;I)V"⟩
abbrev cX4_favourite : ByteArray := prog_6_method_8_code
def yX4_favourite : MethodName := ⟨RX4, "favourite", "(LBeastsChoose$Zoo;LBeastsChoose$State;III)I"⟩
abbrev cX4_choose : ByteArray := prog_6_method_9_code
def yX4_choose : MethodName := ⟨RX4, "choose", "(LBeastsChoose$Zoo;LBeastsChoose$State;I)V"⟩
abbrev cX4_settle : ByteArray := prog_6_method_10_code
def yX4_settle : MethodName := ⟨RX4, "settle", "(LBeastsChoose$Zoo;LBeastsChoose$State;)I"⟩
abbrev cX4_meet : ByteArray := prog_6_method_11_code
def yX4_meet : MethodName := ⟨RX4, "meet", "(LBeastsChoose$Zoo;LBeastsChoose$State;II)I"⟩
abbrev cX4_playHour : ByteArray := prog_6_method_12_code
def yX4_playHour : MethodName := ⟨RX4, "playHour", "(LBeastsChoose$Zoo;LBeastsChoose$State;)I"⟩
abbrev cX4_firstLonely : ByteArray := prog_6_method_13_code
def yX4_firstLonely : MethodName := ⟨RX4, "firstLonely", "(LBeastsChoose$Zoo;I)I"⟩
abbrev cX4_follow : ByteArray := prog_6_method_14_code
def yX4_follow : MethodName := ⟨RX4, "follow", "(LBeastsChoose$Zoo;LBeastsChoose$Tape;I)I"⟩
abbrev cX4_findDress : ByteArray := prog_6_method_15_code
def yX4_findDress : MethodName := ⟨RX4, "findDress", "(LBeastsChoose$Zoo;LBeastsChoose$State;II)V"⟩
def RX5 : String := "BeastsChoose$Parser"
def TX5 : u_T := fun k => match k with
  | 0 => ("BeastsChoose$Parser", "tape", "LBeastsChoose$Tape;", true)
  | 1 => ("BeastsChoose$Parser", "fault", "I", false)
  | 2 => ("BeastsChoose$Parser", "faultPlace", "I", false)
  | 3 => ("BeastsChoose$Parser", "zoo", "LBeastsChoose$Zoo;", false)
  | 4 => ("BeastsChoose$Parser", "formula", "LBeastsChoose$Formula;", false)
  | 5 => ("BeastsChoose$Parser", "isInMay", "Z", false)
  | 6 => ("BeastsChoose$Parser", "open", "I", false)
  | 7 => ("BeastsChoose$Parser", "at", "I", false)
  | _ => ("BeastsChoose$Parser", "read", "I", false)
def tyX5 : Nat → FieldType := fun k => match k with
  | 0 => .object "BeastsChoose$Tape"
  | 1 => .int
  | 2 => .int
  | 3 => .object "BeastsChoose$Zoo"
  | 4 => .object "BeastsChoose$Formula"
  | 5 => .boolean
  | 6 => .int
  | 7 => .int
  | _ => .int
abbrev wsX50 : List Cond := u_ws RX5 TX5 9
theorem nmX5 : ∀ a, a < 9 → ∀ b, b < 9 → a ≠ b → (TX5 a).2.1 ≠ (TX5 b).2.1 := by decide +kernel
theorem tyX5_ok : ∀ k, k < 9 → parseFieldDescriptor (TX5 k).2.2.1 = some (tyX5 k) := by decide +kernel
abbrev cX5_init : ByteArray := prog_7_method_1_code
def yX5_init : MethodName := ⟨RX5, "<init>", "()V"⟩
abbrev cX5_parse : ByteArray := prog_7_method_2_code
def yX5_parse : MethodName := ⟨RX5, "parse", "(LBeastsChoose$Zoo;)I"⟩
abbrev cX5_kind : ByteArray := prog_7_method_3_code
def yX5_kind : MethodName := ⟨RX5, "kind", "()I"⟩
abbrev cX5_fail : ByteArray := prog_7_method_4_code
def yX5_fail : MethodName := ⟨RX5, "fail", "(I)Z"⟩
abbrev cX5_statement : ByteArray := prog_7_method_5_code
def yX5_statement : MethodName := ⟨RX5, "statement", "()Z"⟩
abbrev cX5_beastStatement : ByteArray := prog_7_method_6_code
def yX5_beastStatement : MethodName := ⟨RX5, "beastStatement", "()Z"⟩
abbrev cX5_tasteStatement : ByteArray := prog_7_method_7_code
def yX5_tasteStatement : MethodName := ⟨RX5, "tasteStatement", "()Z"⟩
abbrev cX5_guestStatement : ByteArray := prog_7_method_8_code
def yX5_guestStatement : MethodName := ⟨RX5, "guestStatement", "()Z"⟩
abbrev cX5_fearStatement : ByteArray := prog_7_method_9_code
def yX5_fearStatement : MethodName := ⟨RX5, "fearStatement", "()Z"⟩
abbrev cX5_likesStatement : ByteArray := prog_7_method_10_code
def yX5_likesStatement : MethodName := ⟨RX5, "likesStatement", "()Z"⟩
abbrev cX5_mayStatement : ByteArray := prog_7_method_11_code
def yX5_mayStatement : MethodName := ⟨RX5, "mayStatement", "()Z"⟩
abbrev cX5_setting : ByteArray := prog_7_method_12_code
def yX5_setting : MethodName := ⟨RX5, "setting", "(I)Z"⟩
abbrev cX5_token : ByteArray := prog_7_method_13_code
def yX5_token : MethodName := ⟨RX5, "token", "(I)Z"⟩
abbrev cX5_number : ByteArray := prog_7_method_14_code
def yX5_number : MethodName := ⟨RX5, "number", "(II)Z"⟩
abbrev cX5_triple : ByteArray := prog_7_method_15_code
def yX5_triple : MethodName := ⟨RX5, "triple", "([II)Z"⟩
abbrev cX5_newName : ByteArray := prog_7_method_16_code
def yX5_newName : MethodName := ⟨RX5, "newName", "()Z"⟩
abbrev cX5_knownBeast : ByteArray := prog_7_method_17_code
def yX5_knownBeast : MethodName := ⟨RX5, "knownBeast", "()Z"⟩
abbrev cX5_knownGuest : ByteArray := prog_7_method_18_code
def yX5_knownGuest : MethodName := ⟨RX5, "knownGuest", "()Z"⟩
abbrev cX5_opening : ByteArray := prog_7_method_19_code
def yX5_opening : MethodName := ⟨RX5, "opening", "(I)Z"⟩
abbrev cX5_closing : ByteArray := prog_7_method_20_code
def yX5_closing : MethodName := ⟨RX5, "closing", "(I)Z"⟩
abbrev cX5_sum : ByteArray := prog_7_method_21_code
def yX5_sum : MethodName := ⟨RX5, "sum", "()Z"⟩
abbrev cX5_product : ByteArray := prog_7_method_22_code
def yX5_product : MethodName := ⟨RX5, "product", "()Z"⟩
abbrev cX5_part : ByteArray := prog_7_method_23_code
def yX5_part : MethodName := ⟨RX5, "part", "()Z"⟩
abbrev cX5_pairOfSums : ByteArray := prog_7_method_24_code
def yX5_pairOfSums : MethodName := ⟨RX5, "pairOfSums", "(I)Z"⟩
abbrev cX5_choice : ByteArray := prog_7_method_25_code
def yX5_choice : MethodName := ⟨RX5, "choice", "()Z"⟩
abbrev cX5_scenePart : ByteArray := prog_7_method_26_code
def yX5_scenePart : MethodName := ⟨RX5, "scenePart", "()Z"⟩
abbrev cX5_test : ByteArray := prog_7_method_27_code
def yX5_test : MethodName := ⟨RX5, "test", "()Z"⟩
abbrev cX5_both : ByteArray := prog_7_method_28_code
def yX5_both : MethodName := ⟨RX5, "both", "()Z"⟩
abbrev cX5_fact : ByteArray := prog_7_method_29_code
def yX5_fact : MethodName := ⟨RX5, "fact", "()Z"⟩
abbrev cX5_comparison : ByteArray := prog_7_method_30_code
def yX5_comparison : MethodName := ⟨RX5, "comparison", "()Z"⟩
def RX6 : String := "BeastsChoose$Ring"
def TX6 : u_T := fun k => match k with
  | 0 => ("BeastsChoose$Ring", "holds", "[I", true)
  | 1 => ("BeastsChoose$Ring", "gets", "[I", true)
  | 2 => ("BeastsChoose$Ring", "inRound", "[I", true)
  | 3 => ("BeastsChoose$Ring", "pointsAt", "[I", true)
  | _ => ("BeastsChoose$Ring", "left", "I", false)
def tyX6 : Nat → FieldType := fun k => match k with
  | 0 => .array .int
  | 1 => .array .int
  | 2 => .array .int
  | 3 => .array .int
  | _ => .int
abbrev wsX60 : List Cond := u_ws RX6 TX6 5
theorem nmX6 : ∀ a, a < 5 → ∀ b, b < 5 → a ≠ b → (TX6 a).2.1 ≠ (TX6 b).2.1 := by decide +kernel
theorem tyX6_ok : ∀ k, k < 5 → parseFieldDescriptor (TX6 k).2.2.1 = some (tyX6 k) := by decide +kernel
abbrev cX6_init : ByteArray := prog_8_method_1_code
def yX6_init : MethodName := ⟨RX6, "<init>", "()V"⟩
abbrev cX6_find : ByteArray := prog_8_method_2_code
def yX6_find : MethodName := ⟨RX6, "find", "(LBeastsChoose$Zoo;LBeastsChoose$State;LBeastsChoose$Keeper;)V"⟩
abbrev cX6_isLeft : ByteArray := prog_8_method_3_code
def yX6_isLeft : MethodName := ⟨RX6, "isLeft", "(I)Z"⟩
abbrev cX6_hold : ByteArray := prog_8_method_4_code
def yX6_hold : MethodName := ⟨RX6, "hold", "(LBeastsChoose$Zoo;LBeastsChoose$State;LBeastsChoose$Keeper;)V"⟩
abbrev cX6_pointed : ByteArray := prog_8_method_5_code
def yX6_pointed : MethodName := ⟨RX6, "pointed", "(LBeastsChoose$Zoo;LBeastsChoose$State;LBeastsChoose$Keeper;I)I"⟩
abbrev cX6_leave : ByteArray := prog_8_method_6_code
def yX6_leave : MethodName := ⟨RX6, "leave", "(LBeastsChoose$Zoo;I)V"⟩
abbrev cX6_goesRound : ByteArray := prog_8_method_7_code
def yX6_goesRound : MethodName := ⟨RX6, "goesRound", "(I)Z"⟩
def RX7 : String := "BeastsChoose$State"
def TX7 : u_T := fun k => match k with
  | 0 => ("BeastsChoose$State", "day", "I", false)
  | 1 => ("BeastsChoose$State", "hour", "I", false)
  | 2 => ("BeastsChoose$State", "fees", "I", false)
  | 3 => ("BeastsChoose$State", "traits", "[I", true)
  | 4 => ("BeastsChoose$State", "keptBy", "[I", true)
  | 5 => ("BeastsChoose$State", "sentBack", "[I", true)
  | 6 => ("BeastsChoose$State", "tastes", "[I", true)
  | 7 => ("BeastsChoose$State", "saw", "[I", true)
  | 8 => ("BeastsChoose$State", "sawToday", "[I", true)
  | 9 => ("BeastsChoose$State", "rows", "[I", true)
  | 10 => ("BeastsChoose$State", "oldestRow", "I", false)
  | _ => ("BeastsChoose$State", "rowCount", "I", false)
def tyX7 : Nat → FieldType := fun k => match k with
  | 0 => .int
  | 1 => .int
  | 2 => .int
  | 3 => .array .int
  | 4 => .array .int
  | 5 => .array .int
  | 6 => .array .int
  | 7 => .array .int
  | 8 => .array .int
  | 9 => .array .int
  | 10 => .int
  | _ => .int
abbrev wsX70 : List Cond := u_ws RX7 TX7 12
theorem nmX7 : ∀ a, a < 12 → ∀ b, b < 12 → a ≠ b → (TX7 a).2.1 ≠ (TX7 b).2.1 := by decide +kernel
theorem tyX7_ok : ∀ k, k < 12 → parseFieldDescriptor (TX7 k).2.2.1 = some (tyX7 k) := by decide +kernel
abbrev cX7_init : ByteArray := prog_9_method_1_code
def yX7_init : MethodName := ⟨RX7, "<init>", "()V"⟩
abbrev cX7_begin : ByteArray := prog_9_method_2_code
def yX7_begin : MethodName := ⟨RX7, "begin", "(LBeastsChoose$Zoo;)V"⟩
abbrev cX7_copyFrom : ByteArray := prog_9_method_3_code
def yX7_copyFrom : MethodName := ⟨RX7, "copyFrom", "(LBeastsChoose$State;)V"⟩
abbrev cX7_moment : ByteArray := prog_9_method_4_code
def yX7_moment : MethodName := ⟨RX7, "moment", "()I"⟩
abbrev cX7_suits : ByteArray := prog_9_method_5_code
def yX7_suits : MethodName := ⟨RX7, "suits", "(II)I"⟩
abbrev cX7_passHour : ByteArray := prog_9_method_6_code
def yX7_passHour : MethodName := ⟨RX7, "passHour", "()V"⟩
abbrev cX7_forgetDay : ByteArray := prog_9_method_7_code
def yX7_forgetDay : MethodName := ⟨RX7, "forgetDay", "()V"⟩
abbrev cX7_swapKnowledge : ByteArray := prog_9_method_8_code
def yX7_swapKnowledge : MethodName := ⟨RX7, "swapKnowledge", "(II)V"⟩
abbrev cX7_swapPlaces : ByteArray := prog_9_method_9_code
def yX7_swapPlaces : MethodName := ⟨RX7, "swapPlaces", "([III)V"⟩
abbrev cX7_forgetRows : ByteArray := prog_9_method_10_code
def yX7_forgetRows : MethodName := ⟨RX7, "forgetRows", "()V"⟩
abbrev cX7_keepRow : ByteArray := prog_9_method_11_code
def yX7_keepRow : MethodName := ⟨RX7, "keepRow", "(III)V"⟩
abbrev cX7_rowPart : ByteArray := prog_9_method_12_code
def yX7_rowPart : MethodName := ⟨RX7, "rowPart", "(II)I"⟩
def RX8 : String := "BeastsChoose$Tape"
def TX8 : u_T := fun k => match k with
  | 0 => ("BeastsChoose$Tape", "bytes", "[I", true)
  | 1 => ("BeastsChoose$Tape", "length", "I", false)
  | 2 => ("BeastsChoose$Tape", "kinds", "[I", true)
  | 3 => ("BeastsChoose$Tape", "starts", "[I", true)
  | 4 => ("BeastsChoose$Tape", "values", "[I", true)
  | 5 => ("BeastsChoose$Tape", "tokens", "I", false)
  | 6 => ("BeastsChoose$Tape", "badPlace", "I", false)
  | 7 => ("BeastsChoose$Tape", "ownCodes", "[I", true)
  | _ => ("BeastsChoose$Tape", "at", "I", false)
def tyX8 : Nat → FieldType := fun k => match k with
  | 0 => .array .int
  | 1 => .int
  | 2 => .array .int
  | 3 => .array .int
  | 4 => .array .int
  | 5 => .int
  | 6 => .int
  | 7 => .array .int
  | _ => .int
abbrev wsX80 : List Cond := u_ws RX8 TX8 9
theorem nmX8 : ∀ a, a < 9 → ∀ b, b < 9 → a ≠ b → (TX8 a).2.1 ≠ (TX8 b).2.1 := by decide +kernel
theorem tyX8_ok : ∀ k, k < 9 → parseFieldDescriptor (TX8 k).2.2.1 = some (tyX8 k) := by decide +kernel
abbrev cX8_init : ByteArray := prog_10_method_1_code
def yX8_init : MethodName := ⟨RX8, "<init>", "()V"⟩
abbrev cX8_padded : ByteArray := prog_10_method_2_code
def yX8_padded : MethodName := ⟨RX8, "padded", "(II)I"⟩
abbrev cX8_letterOf : ByteArray := prog_10_method_3_code
def yX8_letterOf : MethodName := ⟨RX8, "letterOf", "(II)I"⟩
abbrev cX8_put : ByteArray := prog_10_method_4_code
def yX8_put : MethodName := ⟨RX8, "put", "(I)V"⟩
abbrev cX8_holdsPairs : ByteArray := prog_10_method_5_code
def yX8_holdsPairs : MethodName := ⟨RX8, "holdsPairs", "(II)Z"⟩
abbrev cX8_pairsUnlike : ByteArray := prog_10_method_6_code
def yX8_pairsUnlike : MethodName := ⟨RX8, "pairsUnlike", "()Z"⟩
abbrev cX8_split : ByteArray := prog_10_method_7_code
def yX8_split : MethodName := ⟨RX8, "split", "()V"⟩
abbrev cX8_skipBlanks : ByteArray := prog_10_method_8_code
def yX8_skipBlanks : MethodName := ⟨RX8, "skipBlanks", "()V"⟩
abbrev cX8_scan : ByteArray := prog_10_method_9_code
def yX8_scan : MethodName := ⟨RX8, "scan", "(Z)I"⟩
abbrev cX8_badHere : ByteArray := prog_10_method_10_code
def yX8_badHere : MethodName := ⟨RX8, "badHere", "()I"⟩
abbrev cX8_scanWord : ByteArray := prog_10_method_11_code
def yX8_scanWord : MethodName := ⟨RX8, "scanWord", "()I"⟩
abbrev cX8_scanNumber : ByteArray := prog_10_method_12_code
def yX8_scanNumber : MethodName := ⟨RX8, "scanNumber", "()I"⟩
abbrev cX8_isLetter : ByteArray := prog_10_method_13_code
def yX8_isLetter : MethodName := ⟨RX8, "isLetter", "(I)Z"⟩
abbrev cX8_isDigit : ByteArray := prog_10_method_14_code
def yX8_isDigit : MethodName := ⟨RX8, "isDigit", "(I)Z"⟩
def RX9 : String := "BeastsChoose$Walk"
def TX9 : u_T := fun k => match k with
  | 0 => ("BeastsChoose$Walk", "steps", "[I", true)
  | _ => ("BeastsChoose$Walk", "least", "[I", true)
def tyX9 : Nat → FieldType := fun k => match k with
  | 0 => .array .int
  | _ => .array .int
abbrev wsX90 : List Cond := u_ws RX9 TX9 2
theorem nmX9 : ∀ a, a < 2 → ∀ b, b < 2 → a ≠ b → (TX9 a).2.1 ≠ (TX9 b).2.1 := by decide +kernel
theorem tyX9_ok : ∀ k, k < 2 → parseFieldDescriptor (TX9 k).2.2.1 = some (tyX9 k) := by decide +kernel
abbrev cX9_init : ByteArray := prog_11_method_1_code
def yX9_init : MethodName := ⟨RX9, "<init>", "()V"⟩
abbrev cX9_least : ByteArray := prog_11_method_2_code
def yX9_least : MethodName := ⟨RX9, "least", "([III)I"⟩
abbrev cX9_stepsTo : ByteArray := prog_11_method_3_code
def yX9_stepsTo : MethodName := ⟨RX9, "stepsTo", "([II)I"⟩
abbrev cX9_sharedByOneMore : ByteArray := prog_11_method_4_code
def yX9_sharedByOneMore : MethodName := ⟨RX9, "sharedByOneMore", "(I)I"⟩
def RX10 : String := "BeastsChoose$Zoo"
def TX10 : u_T := fun k => match k with
  | 0 => ("BeastsChoose$Zoo", "beasts", "I", false)
  | 1 => ("BeastsChoose$Zoo", "guests", "I", false)
  | 2 => ("BeastsChoose$Zoo", "beastName", "[I", true)
  | 3 => ("BeastsChoose$Zoo", "wakes", "[I", true)
  | 4 => ("BeastsChoose$Zoo", "sleeps", "[I", true)
  | 5 => ("BeastsChoose$Zoo", "place", "[I", true)
  | 6 => ("BeastsChoose$Zoo", "firstTastes", "[I", true)
  | 7 => ("BeastsChoose$Zoo", "guestName", "[I", true)
  | 8 => ("BeastsChoose$Zoo", "comes", "[I", true)
  | 9 => ("BeastsChoose$Zoo", "goes", "[I", true)
  | 10 => ("BeastsChoose$Zoo", "fears", "[I", true)
  | 11 => ("BeastsChoose$Zoo", "firstTraits", "[I", true)
  | 12 => ("BeastsChoose$Zoo", "likes", "LBeastsChoose$Formula;", true)
  | 13 => ("BeastsChoose$Zoo", "may", "LBeastsChoose$Formula;", true)
  | 14 => ("BeastsChoose$Zoo", "ushers", "I", false)
  | 15 => ("BeastsChoose$Zoo", "bores", "I", false)
  | 16 => ("BeastsChoose$Zoo", "keeps", "I", false)
  | 17 => ("BeastsChoose$Zoo", "fee", "I", false)
  | _ => ("BeastsChoose$Zoo", "rain", "I", false)
def tyX10 : Nat → FieldType := fun k => match k with
  | 0 => .int
  | 1 => .int
  | 2 => .array .int
  | 3 => .array .int
  | 4 => .array .int
  | 5 => .array .int
  | 6 => .array .int
  | 7 => .array .int
  | 8 => .array .int
  | 9 => .array .int
  | 10 => .array .int
  | 11 => .array .int
  | 12 => .object "BeastsChoose$Formula"
  | 13 => .object "BeastsChoose$Formula"
  | 14 => .int
  | 15 => .int
  | 16 => .int
  | 17 => .int
  | _ => .int
abbrev wsX100 : List Cond := u_ws RX10 TX10 19
theorem nmX10 : ∀ a, a < 19 → ∀ b, b < 19 → a ≠ b → (TX10 a).2.1 ≠ (TX10 b).2.1 := by decide +kernel
theorem tyX10_ok : ∀ k, k < 19 → parseFieldDescriptor (TX10 k).2.2.1 = some (tyX10 k) := by decide +kernel
abbrev cX10_init : ByteArray := prog_12_method_1_code
def yX10_init : MethodName := ⟨RX10, "<init>", "()V"⟩
abbrev cX10_clear : ByteArray := prog_12_method_2_code
def yX10_clear : MethodName := ⟨RX10, "clear", "()V"⟩
abbrev cX10_addBeast : ByteArray := prog_12_method_3_code
def yX10_addBeast : MethodName := ⟨RX10, "addBeast", "(IIII)V"⟩
abbrev cX10_addGuest : ByteArray := prog_12_method_4_code
def yX10_addGuest : MethodName := ⟨RX10, "addGuest", "(III)V"⟩
abbrev cX10_beastCalled : ByteArray := prog_12_method_5_code
def yX10_beastCalled : MethodName := ⟨RX10, "beastCalled", "(I)I"⟩
abbrev cX10_guestCalled : ByteArray := prog_12_method_6_code
def yX10_guestCalled : MethodName := ⟨RX10, "guestCalled", "(I)I"⟩
abbrev cX10_isBeast : ByteArray := prog_12_method_7_code
def yX10_isBeast : MethodName := ⟨RX10, "isBeast", "(I)Z"⟩
abbrev cX10_isGuest : ByteArray := prog_12_method_8_code
def yX10_isGuest : MethodName := ⟨RX10, "isGuest", "(I)Z"⟩
abbrev cX10_isAwake : ByteArray := prog_12_method_9_code
def yX10_isAwake : MethodName := ⟨RX10, "isAwake", "(II)Z"⟩
abbrev cX10_isThere : ByteArray := prog_12_method_10_code
def yX10_isThere : MethodName := ⟨RX10, "isThere", "(II)Z"⟩
abbrev cX10_isFeared : ByteArray := prog_12_method_11_code
def yX10_isFeared : MethodName := ⟨RX10, "isFeared", "(II)Z"⟩
def RX11 : String := "BeastsChoose"
def TX11 : u_T := fun k => match k with
  | 0 => ("BeastsChoose", "parser", "LBeastsChoose$Parser;", true)
  | 1 => ("BeastsChoose", "tape", "LBeastsChoose$Tape;", true)
  | 2 => ("BeastsChoose", "now", "LBeastsChoose$State;", true)
  | 3 => ("BeastsChoose", "ahead", "LBeastsChoose$State;", true)
  | 4 => ("BeastsChoose", "past", "[LBeastsChoose$State;", true)
  | 5 => ("BeastsChoose", "keeper", "LBeastsChoose$Keeper;", true)
  | 6 => ("BeastsChoose", "bringing", "LBeastsChoose$Bringing;", true)
  | 7 => ("BeastsChoose", "guesses", "LBeastsChoose$Guesses;", true)
  | 8 => ("BeastsChoose", "ring", "LBeastsChoose$Ring;", true)
  | 9 => ("BeastsChoose", "walking", "LBeastsChoose$Walk;", true)
  | 10 => ("BeastsChoose", "picture", "LBeastsChoose$Image;", true)
  | 11 => ("BeastsChoose", "refused", "[I", true)
  | 12 => ("BeastsChoose", "zoo", "LBeastsChoose$Zoo;", false)
  | 13 => ("BeastsChoose", "draft", "LBeastsChoose$Zoo;", false)
  | 14 => ("BeastsChoose", "oldestPast", "I", false)
  | 15 => ("BeastsChoose", "pastCount", "I", false)
  | _ => ("BeastsChoose", "seed", "I", false)
def tyX11 : Nat → FieldType := fun k => match k with
  | 0 => .object "BeastsChoose$Parser"
  | 1 => .object "BeastsChoose$Tape"
  | 2 => .object "BeastsChoose$State"
  | 3 => .object "BeastsChoose$State"
  | 4 => .array (.object "BeastsChoose$State")
  | 5 => .object "BeastsChoose$Keeper"
  | 6 => .object "BeastsChoose$Bringing"
  | 7 => .object "BeastsChoose$Guesses"
  | 8 => .object "BeastsChoose$Ring"
  | 9 => .object "BeastsChoose$Walk"
  | 10 => .object "BeastsChoose$Image"
  | 11 => .array .int
  | 12 => .object "BeastsChoose$Zoo"
  | 13 => .object "BeastsChoose$Zoo"
  | 14 => .int
  | 15 => .int
  | _ => .int
abbrev wsX110 : List Cond := u_ws RX11 TX11 17
theorem nmX11 : ∀ a, a < 17 → ∀ b, b < 17 → a ≠ b → (TX11 a).2.1 ≠ (TX11 b).2.1 := by decide +kernel
theorem tyX11_ok : ∀ k, k < 17 → parseFieldDescriptor (TX11 k).2.2.1 = some (tyX11 k) := by decide +kernel
abbrev cX11_init : ByteArray := prog_1_method_1_code
def yX11_init : MethodName := ⟨RX11, "<init>", "()V"⟩
abbrev cX11_feed : ByteArray := prog_1_method_2_code
def yX11_feed : MethodName := ⟨RX11, "feed", "(IIIII)I"⟩
abbrev cX11_end : ByteArray := prog_1_method_3_code
def yX11_end : MethodName := ⟨RX11, "end", "(I)Z"⟩
abbrev cX11_zoo : ByteArray := prog_1_method_4_code
def yX11_zoo : MethodName := ⟨RX11, "zoo", "()I"⟩
abbrev cX11_fault : ByteArray := prog_1_method_5_code
def yX11_fault : MethodName := ⟨RX11, "fault", "(I)I"⟩
abbrev cX11_has : ByteArray := prog_1_method_6_code
def yX11_has : MethodName := ⟨RX11, "has", "(I)I"⟩
abbrev cX11_letter : ByteArray := prog_1_method_7_code
def yX11_letter : MethodName := ⟨RX11, "letter", "(III)I"⟩
abbrev cX11_beast : ByteArray := prog_1_method_8_code
def yX11_beast : MethodName := ⟨RX11, "beast", "(II)I"⟩
abbrev cX11_guest : ByteArray := prog_1_method_9_code
def yX11_guest : MethodName := ⟨RX11, "guest", "(II)I"⟩
abbrev cX11_between : ByteArray := prog_1_method_10_code
def yX11_between : MethodName := ⟨RX11, "between", "(III)I"⟩
abbrev cX11_asks : ByteArray := prog_1_method_11_code
def yX11_asks : MethodName := ⟨RX11, "asks", "(II)I"⟩
abbrev cX11_alone : ByteArray := prog_1_method_12_code
def yX11_alone : MethodName := ⟨RX11, "alone", "(I)I"⟩
abbrev cX11_bring : ByteArray := prog_1_method_13_code
def yX11_bring : MethodName := ⟨RX11, "bring", "(I)I"⟩
abbrev cX11_dress : ByteArray := prog_1_method_14_code
def yX11_dress : MethodName := ⟨RX11, "dress", "(III)I"⟩
abbrev cX11_tell : ByteArray := prog_1_method_15_code
def yX11_tell : MethodName := ⟨RX11, "tell", "()I"⟩
abbrev cX11_tastes : ByteArray := prog_1_method_16_code
def yX11_tastes : MethodName := ⟨RX11, "tastes", "(I)I"⟩
abbrev cX11_send : ByteArray := prog_1_method_17_code
def yX11_send : MethodName := ⟨RX11, "send", "(I)I"⟩
abbrev cX11_round : ByteArray := prog_1_method_18_code
def yX11_round : MethodName := ⟨RX11, "round", "(II)I"⟩
abbrev cX11_walk : ByteArray := prog_1_method_19_code
def yX11_walk : MethodName := ⟨RX11, "walk", "(II)I"⟩
abbrev cX11_torn : ByteArray := prog_1_method_20_code
def yX11_torn : MethodName := ⟨RX11, "torn", "()I"⟩
abbrev cX11_hours : ByteArray := prog_1_method_21_code
def yX11_hours : MethodName := ⟨RX11, "hours", "(I)I"⟩
abbrev cX11_chance : ByteArray := prog_1_method_22_code
def yX11_chance : MethodName := ⟨RX11, "chance", "(I)I"⟩
abbrev cX11_change : ByteArray := prog_1_method_23_code
def yX11_change : MethodName := ⟨RX11, "change", "(IIII)Z"⟩
abbrev cX11_train : ByteArray := prog_1_method_24_code
def yX11_train : MethodName := ⟨RX11, "train", "(IIII)Z"⟩
abbrev cX11_swap : ByteArray := prog_1_method_25_code
def yX11_swap : MethodName := ⟨RX11, "swap", "(II)Z"⟩
abbrev cX11_undo : ByteArray := prog_1_method_26_code
def yX11_undo : MethodName := ⟨RX11, "undo", "()Z"⟩
abbrev cX11_seed : ByteArray := prog_1_method_27_code
def yX11_seed : MethodName := ⟨RX11, "seed", "(I)Z"⟩
abbrev cX11_kept : ByteArray := prog_1_method_28_code
def yX11_kept : MethodName := ⟨RX11, "kept", "(II)I"⟩
abbrev cX11_image : ByteArray := prog_1_method_29_code
def yX11_image : MethodName := ⟨RX11, "image", "()I"⟩
abbrev cX11_octet : ByteArray := prog_1_method_30_code
def yX11_octet : MethodName := ⟨RX11, "octet", "(I)I"⟩
abbrev cX11_on : ByteArray := prog_1_method_31_code
def yX11_on : MethodName := ⟨RX11, "on", "()Z"⟩
abbrev cX11_status : ByteArray := prog_1_method_32_code
def yX11_status : MethodName := ⟨RX11, "status", "(I)I"⟩
abbrev cX11_refuse : ByteArray := prog_1_method_33_code
def yX11_refuse : MethodName := ⟨RX11, "refuse", "(I)I"⟩
abbrev cX11_guestsThere : ByteArray := prog_1_method_34_code
def yX11_guestsThere : MethodName := ⟨RX11, "guestsThere", "()I"⟩
abbrev cX11_guestsKept : ByteArray := prog_1_method_35_code
def yX11_guestsKept : MethodName := ⟨RX11, "guestsKept", "()I"⟩
abbrev cX11_firstKeptBy : ByteArray := prog_1_method_36_code
def yX11_firstKeptBy : MethodName := ⟨RX11, "firstKeptBy", "(I)I"⟩
abbrev cX11_hoursToSee : ByteArray := prog_1_method_37_code
def yX11_hoursToSee : MethodName := ⟨RX11, "hoursToSee", "()I"⟩
abbrev cX11_canGoBy : ByteArray := prog_1_method_38_code
def yX11_canGoBy : MethodName := ⟨RX11, "canGoBy", "(I)Z"⟩
abbrev cX11_hoursUntilCome : ByteArray := prog_1_method_39_code
def yX11_hoursUntilCome : MethodName := ⟨RX11, "hoursUntilCome", "()I"⟩
abbrev cX11_drawOfHundred : ByteArray := prog_1_method_40_code
def yX11_drawOfHundred : MethodName := ⟨RX11, "drawOfHundred", "()I"⟩
abbrev cX11_remember : ByteArray := prog_1_method_41_code
def yX11_remember : MethodName := ⟨RX11, "remember", "()V"⟩
abbrev cX11_isTrait : ByteArray := prog_1_method_42_code
def yX11_isTrait : MethodName := ⟨RX11, "isTrait", "(I)Z"⟩
abbrev cX11_isNewTriple : ByteArray := prog_1_method_43_code
def yX11_isNewTriple : MethodName := ⟨RX11, "isNewTriple", "([IIIII)Z"⟩
abbrev cX11_setTriple : ByteArray := prog_1_method_44_code
def yX11_setTriple : MethodName := ⟨RX11, "setTriple", "([IIIII)V"⟩
def RX12 : String := "BeastsChooseModel"
def TX12 : u_T := fun k => match k with
  | 0 => ("BeastsChooseModel", "tape", "[I", true)
  | 1 => ("BeastsChooseModel", "taped", "I", false)
  | 2 => ("BeastsChooseModel", "size", "I", false)
  | 3 => ("BeastsChooseModel", "sign", "I", false)
  | 4 => ("BeastsChooseModel", "signAt", "I", false)
  | 5 => ("BeastsChooseModel", "signEnd", "I", false)
  | 6 => ("BeastsChooseModel", "value", "I", false)
  | 7 => ("BeastsChooseModel", "word", "J", false)
  | 8 => ("BeastsChooseModel", "faultKind", "I", false)
  | 9 => ("BeastsChooseModel", "faultPlace", "I", false)
  | 10 => ("BeastsChooseModel", "toldKind", "I", false)
  | 11 => ("BeastsChooseModel", "toldPlace", "I", false)
  | 12 => ("BeastsChooseModel", "lexAt", "I", false)
  | 13 => ("BeastsChooseModel", "bank", "I", false)
  | 14 => ("BeastsChooseModel", "beasts", "[I", true)
  | 15 => ("BeastsChooseModel", "wakesAt", "[I", true)
  | 16 => ("BeastsChooseModel", "sleepsAt", "[I", true)
  | 17 => ("BeastsChooseModel", "placeOf", "[I", true)
  | 18 => ("BeastsChooseModel", "tasteTold", "[I", true)
  | 19 => ("BeastsChooseModel", "guests", "[I", true)
  | 20 => ("BeastsChooseModel", "lookTold", "[I", true)
  | 21 => ("BeastsChooseModel", "comesAt", "[I", true)
  | 22 => ("BeastsChooseModel", "goesAt", "[I", true)
  | 23 => ("BeastsChooseModel", "fearsTold", "[I", true)
  | 24 => ("BeastsChooseModel", "told", "[I", true)
  | 25 => ("BeastsChooseModel", "sumFrom", "[I", true)
  | 26 => ("BeastsChooseModel", "sumBehind", "[I", true)
  | 27 => ("BeastsChooseModel", "codeSort", "[I", true)
  | 28 => ("BeastsChooseModel", "codeValue", "[I", true)
  | 29 => ("BeastsChooseModel", "beastName", "[J", true)
  | 30 => ("BeastsChooseModel", "guestName", "[J", true)
  | 31 => ("BeastsChooseModel", "codes", "I", false)
  | 32 => ("BeastsChooseModel", "in", "I", false)
  | 33 => ("BeastsChooseModel", "isMay", "Z", false)
  | 34 => ("BeastsChooseModel", "frame", "[I", true)
  | 35 => ("BeastsChooseModel", "phase", "[I", true)
  | 36 => ("BeastsChooseModel", "begins", "[Z", true)
  | 37 => ("BeastsChooseModel", "pair", "[I", true)
  | 38 => ("BeastsChooseModel", "base", "[I", true)
  | 39 => ("BeastsChooseModel", "deep", "I", false)
  | 40 => ("BeastsChooseModel", "open", "I", false)
  | 41 => ("BeastsChooseModel", "ops", "[I", true)
  | 42 => ("BeastsChooseModel", "opMany", "I", false)
  | 43 => ("BeastsChooseModel", "operand", "Z", false)
  | 44 => ("BeastsChooseModel", "three", "[I", true)
  | 45 => ("BeastsChooseModel", "refused", "[I", true)
  | 46 => ("BeastsChooseModel", "hourOf", "[I", true)
  | 47 => ("BeastsChooseModel", "feesOf", "[I", true)
  | 48 => ("BeastsChooseModel", "lookOf", "[I", true)
  | 49 => ("BeastsChooseModel", "keptBy", "[I", true)
  | 50 => ("BeastsChooseModel", "sentBy", "[I", true)
  | 51 => ("BeastsChooseModel", "tasteOf", "[I", true)
  | 52 => ("BeastsChooseModel", "sawOf", "[I", true)
  | 53 => ("BeastsChooseModel", "todayOf", "[I", true)
  | 54 => ("BeastsChooseModel", "keptMany", "[I", true)
  | 55 => ("BeastsChooseModel", "keptRow", "[I", true)
  | 56 => ("BeastsChooseModel", "undoFirst", "I", false)
  | 57 => ("BeastsChooseModel", "undos", "I", false)
  | 58 => ("BeastsChooseModel", "seeds", "J", false)
  | 59 => ("BeastsChooseModel", "stack", "[J", true)
  | 60 => ("BeastsChooseModel", "asked", "[I", true)
  | 61 => ("BeastsChooseModel", "askedFor", "[I", true)
  | 62 => ("BeastsChooseModel", "became", "[I", true)
  | 63 => ("BeastsChooseModel", "mostLiked", "[I", true)
  | 64 => ("BeastsChooseModel", "likedBy", "[I", true)
  | 65 => ("BeastsChooseModel", "rows", "I", false)
  | 66 => ("BeastsChooseModel", "rather", "[I", true)
  | 67 => ("BeastsChooseModel", "other", "[I", true)
  | 68 => ("BeastsChooseModel", "waysOf", "[I", true)
  | 69 => ("BeastsChooseModel", "holds", "[I", true)
  | 70 => ("BeastsChooseModel", "points", "[I", true)
  | 71 => ("BeastsChooseModel", "gets", "[I", true)
  | 72 => ("BeastsChooseModel", "leaves", "[I", true)
  | 73 => ("BeastsChooseModel", "walkOf", "[I", true)
  | 74 => ("BeastsChooseModel", "stepsOf", "[I", true)
  | 75 => ("BeastsChooseModel", "out", "[I", true)
  | _ => ("BeastsChooseModel", "outs", "I", false)
def tyX12 : Nat → FieldType := fun k => match k with
  | 0 => .array .int
  | 1 => .int
  | 2 => .int
  | 3 => .int
  | 4 => .int
  | 5 => .int
  | 6 => .int
  | 7 => .long
  | 8 => .int
  | 9 => .int
  | 10 => .int
  | 11 => .int
  | 12 => .int
  | 13 => .int
  | 14 => .array .int
  | 15 => .array .int
  | 16 => .array .int
  | 17 => .array .int
  | 18 => .array .int
  | 19 => .array .int
  | 20 => .array .int
  | 21 => .array .int
  | 22 => .array .int
  | 23 => .array .int
  | 24 => .array .int
  | 25 => .array .int
  | 26 => .array .int
  | 27 => .array .int
  | 28 => .array .int
  | 29 => .array .long
  | 30 => .array .long
  | 31 => .int
  | 32 => .int
  | 33 => .boolean
  | 34 => .array .int
  | 35 => .array .int
  | 36 => .array .boolean
  | 37 => .array .int
  | 38 => .array .int
  | 39 => .int
  | 40 => .int
  | 41 => .array .int
  | 42 => .int
  | 43 => .boolean
  | 44 => .array .int
  | 45 => .array .int
  | 46 => .array .int
  | 47 => .array .int
  | 48 => .array .int
  | 49 => .array .int
  | 50 => .array .int
  | 51 => .array .int
  | 52 => .array .int
  | 53 => .array .int
  | 54 => .array .int
  | 55 => .array .int
  | 56 => .int
  | 57 => .int
  | 58 => .long
  | 59 => .array .long
  | 60 => .array .int
  | 61 => .array .int
  | 62 => .array .int
  | 63 => .array .int
  | 64 => .array .int
  | 65 => .int
  | 66 => .array .int
  | 67 => .array .int
  | 68 => .array .int
  | 69 => .array .int
  | 70 => .array .int
  | 71 => .array .int
  | 72 => .array .int
  | 73 => .array .int
  | 74 => .array .int
  | 75 => .array .int
  | _ => .int
abbrev wsX120 : List Cond := u_ws RX12 TX12 77
theorem nmX12 : ∀ a, a < 77 → ∀ b, b < 77 → a ≠ b → (TX12 a).2.1 ≠ (TX12 b).2.1 := by decide +kernel
theorem tyX12_ok : ∀ k, k < 77 → parseFieldDescriptor (TX12 k).2.2.1 = some (tyX12 k) := by decide +kernel
abbrev cX12_init : ByteArray := prog_14_method_1_code
def yX12_init : MethodName := ⟨RX12, "<init>", "()V"⟩
abbrev cX12_is : ByteArray := prog_14_method_2_code
def yX12_is : MethodName := ⟨RX12, "is", "(III)Z"⟩
abbrev cX12_put : ByteArray := prog_14_method_3_code
def yX12_put : MethodName := ⟨RX12, "put", "(I)V"⟩
abbrev cX12_feed : ByteArray := prog_14_method_4_code
def yX12_feed : MethodName := ⟨RX12, "feed", "(IIIII)I"⟩
abbrev cX12_end : ByteArray := prog_14_method_5_code
def yX12_end : MethodName := ⟨RX12, "end", "(I)Z"⟩
abbrev cX12_blame : ByteArray := prog_14_method_6_code
def yX12_blame : MethodName := ⟨RX12, "blame", "(II)V"⟩
abbrev cX12_isLetter : ByteArray := prog_14_method_7_code
def yX12_isLetter : MethodName := ⟨RX12, "isLetter", "(I)Z"⟩
abbrev cX12_isDigit : ByteArray := prog_14_method_8_code
def yX12_isDigit : MethodName := ⟨RX12, "isDigit", "(I)Z"⟩
abbrev cX12_lex : ByteArray := prog_14_method_9_code
def yX12_lex : MethodName := ⟨RX12, "lex", "()V"⟩
abbrev cX12_ahead : ByteArray := prog_14_method_10_code
def yX12_ahead : MethodName := ⟨RX12, "ahead", "()V"⟩
abbrev cX12_isSign : ByteArray := prog_14_method_11_code
def yX12_isSign : MethodName := ⟨RX12, "isSign", "(I)Z"⟩
abbrev cX12_isWord : ByteArray := prog_14_method_12_code
def yX12_isWord : MethodName := ⟨RX12, "isWord", "(J)Z"⟩
abbrev cX12_must : ByteArray := prog_14_method_13_code
def yX12_must : MethodName := ⟨RX12, "must", "(I)V"⟩
abbrev cX12_isOwn : ByteArray := prog_14_method_14_code
def yX12_isOwn : MethodName := ⟨RX12, "isOwn", "(J)Z"⟩
abbrev cX12_isDefault : ByteArray := prog_14_method_15_code
def yX12_isDefault : MethodName := ⟨RX12, "isDefault", "(I)V"⟩
abbrev cX12_toldOf : ByteArray := prog_14_method_16_code
def yX12_toldOf : MethodName := ⟨RX12, "toldOf", "(I)I"⟩
abbrev cX12_manyOf : ByteArray := prog_14_method_17_code
def yX12_manyOf : MethodName := ⟨RX12, "manyOf", "(II)I"⟩
abbrev cX12_nameOf : ByteArray := prog_14_method_18_code
def yX12_nameOf : MethodName := ⟨RX12, "nameOf", "(III)J"⟩
abbrev cX12_named : ByteArray := prog_14_method_19_code
def yX12_named : MethodName := ⟨RX12, "named", "(IJ)I"⟩
abbrev cX12_number : ByteArray := prog_14_method_20_code
def yX12_number : MethodName := ⟨RX12, "number", "(II)I"⟩
abbrev cX12_add : ByteArray := prog_14_method_21_code
def yX12_add : MethodName := ⟨RX12, "add", "(II)V"⟩
abbrev cX12_rank : ByteArray := prog_14_method_22_code
def yX12_rank : MethodName := ⟨RX12, "rank", "(I)I"⟩
abbrev cX12_joins : ByteArray := prog_14_method_23_code
def yX12_joins : MethodName := ⟨RX12, "joins", "(I)V"⟩
abbrev cX12_holdsBack : ByteArray := prog_14_method_24_code
def yX12_holdsBack : MethodName := ⟨RX12, "holdsBack", "(I)V"⟩
abbrev cX12_pushes : ByteArray := prog_14_method_25_code
def yX12_pushes : MethodName := ⟨RX12, "pushes", "(I)V"⟩
abbrev cX12_opens : ByteArray := prog_14_method_26_code
def yX12_opens : MethodName := ⟨RX12, "opens", "(I)V"⟩
abbrev cX12_isTest : ByteArray := prog_14_method_27_code
def yX12_isTest : MethodName := ⟨RX12, "isTest", "(I)Z"⟩
abbrev cX12_operand : ByteArray := prog_14_method_28_code
def yX12_operand : MethodName := ⟨RX12, "operand", "()Z"⟩
abbrev cX12_goesOn : ByteArray := prog_14_method_29_code
def yX12_goesOn : MethodName := ⟨RX12, "goesOn", "()Z"⟩
abbrev cX12_reads : ByteArray := prog_14_method_30_code
def yX12_reads : MethodName := ⟨RX12, "reads", "(Z)V"⟩
abbrev cX12_counts : ByteArray := prog_14_method_31_code
def yX12_counts : MethodName := ⟨RX12, "counts", "(Z)Z"⟩
abbrev cX12_must_ : ByteArray := prog_14_method_32_code
def yX12_must_ : MethodName := ⟨RX12, "must", "(J)V"⟩
abbrev cX12_fresh : ByteArray := prog_14_method_33_code
def yX12_fresh : MethodName := ⟨RX12, "fresh", "()J"⟩
abbrev cX12_askedBut : ByteArray := prog_14_method_34_code
def yX12_askedBut : MethodName := ⟨RX12, "askedBut", "(II)I"⟩
abbrev cX12_has2 : ByteArray := prog_14_method_35_code
def yX12_has2 : MethodName := ⟨RX12, "has2", "(II)Z"⟩
abbrev cX12_beasting : ByteArray := prog_14_method_36_code
def yX12_beasting : MethodName := ⟨RX12, "beasting", "()V"⟩
abbrev cX12_threes : ByteArray := prog_14_method_37_code
def yX12_threes : MethodName := ⟨RX12, "threes", "()V"⟩
abbrev cX12_tasting : ByteArray := prog_14_method_38_code
def yX12_tasting : MethodName := ⟨RX12, "tasting", "()V"⟩
abbrev cX12_guesting : ByteArray := prog_14_method_39_code
def yX12_guesting : MethodName := ⟨RX12, "guesting", "()V"⟩
abbrev cX12_fearing : ByteArray := prog_14_method_40_code
def yX12_fearing : MethodName := ⟨RX12, "fearing", "()V"⟩
abbrev cX12_reading : ByteArray := prog_14_method_41_code
def yX12_reading : MethodName := ⟨RX12, "reading", "(I)V"⟩
abbrev cX12_telling : ByteArray := prog_14_method_42_code
def yX12_telling : MethodName := ⟨RX12, "telling", "(III)V"⟩
abbrev cX12_statement : ByteArray := prog_14_method_43_code
def yX12_statement : MethodName := ⟨RX12, "statement", "()V"⟩
abbrev cX12_finishes : ByteArray := prog_14_method_44_code
def yX12_finishes : MethodName := ⟨RX12, "finishes", "(I)V"⟩
abbrev cX12_zoo : ByteArray := prog_14_method_45_code
def yX12_zoo : MethodName := ⟨RX12, "zoo", "()I"⟩
abbrev cX12_fault : ByteArray := prog_14_method_46_code
def yX12_fault : MethodName := ⟨RX12, "fault", "(I)I"⟩
abbrev cX12_refuses : ByteArray := prog_14_method_47_code
def yX12_refuses : MethodName := ⟨RX12, "refuses", "(I)I"⟩
abbrev cX12_status : ByteArray := prog_14_method_48_code
def yX12_status : MethodName := ⟨RX12, "status", "(I)I"⟩
abbrev cX12_copies : ByteArray := prog_14_method_49_code
def yX12_copies : MethodName := ⟨RX12, "copies", "(II)V"⟩
abbrev cX12_dawns : ByteArray := prog_14_method_50_code
def yX12_dawns : MethodName := ⟨RX12, "dawns", "(I)V"⟩
abbrev cX12_begin : ByteArray := prog_14_method_51_code
def yX12_begin : MethodName := ⟨RX12, "begin", "()V"⟩
abbrev cX12_slot : ByteArray := prog_14_method_52_code
def yX12_slot : MethodName := ⟨RX12, "slot", "(I)I"⟩
abbrev cX12_keeps : ByteArray := prog_14_method_53_code
def yX12_keeps : MethodName := ⟨RX12, "keeps", "()V"⟩
abbrev cX12_undo : ByteArray := prog_14_method_54_code
def yX12_undo : MethodName := ⟨RX12, "undo", "()Z"⟩
abbrev cX12_held : ByteArray := prog_14_method_55_code
def yX12_held : MethodName := ⟨RX12, "held", "(J)J"⟩
abbrev cX12_floor : ByteArray := prog_14_method_56_code
def yX12_floor : MethodName := ⟨RX12, "floor", "(JJ)J"⟩
abbrev cX12_two : ByteArray := prog_14_method_57_code
def yX12_two : MethodName := ⟨RX12, "two", "(IJJ)J"⟩
abbrev cX12_reckons : ByteArray := prog_14_method_58_code
def yX12_reckons : MethodName := ⟨RX12, "reckons", "(I)J"⟩
abbrev cX12_isTold : ByteArray := prog_14_method_59_code
def yX12_isTold : MethodName := ⟨RX12, "isTold", "(I)Z"⟩
abbrev cX12_look : ByteArray := prog_14_method_60_code
def yX12_look : MethodName := ⟨RX12, "look", "(III)I"⟩
abbrev cX12_tasteIn : ByteArray := prog_14_method_61_code
def yX12_tasteIn : MethodName := ⟨RX12, "tasteIn", "(III)I"⟩
abbrev cX12_pair : ByteArray := prog_14_method_62_code
def yX12_pair : MethodName := ⟨RX12, "pair", "(III)I"⟩
abbrev cX12_hourIn : ByteArray := prog_14_method_63_code
def yX12_hourIn : MethodName := ⟨RX12, "hourIn", "(I)I"⟩
abbrev cX12_suiting : ByteArray := prog_14_method_64_code
def yX12_suiting : MethodName := ⟨RX12, "suiting", "(III)I"⟩
abbrev cX12_tells : ByteArray := prog_14_method_65_code
def yX12_tells : MethodName := ⟨RX12, "tells", "(III)V"⟩
abbrev cX12_liked : ByteArray := prog_14_method_66_code
def yX12_liked : MethodName := ⟨RX12, "liked", "(III)I"⟩
abbrev cX12_isFeared : ByteArray := prog_14_method_67_code
def yX12_isFeared : MethodName := ⟨RX12, "isFeared", "(II)Z"⟩
abbrev cX12_isAllowed : ByteArray := prog_14_method_68_code
def yX12_isAllowed : MethodName := ⟨RX12, "isAllowed", "(IIII)Z"⟩
abbrev cX12_isAwake : ByteArray := prog_14_method_69_code
def yX12_isAwake : MethodName := ⟨RX12, "isAwake", "(II)Z"⟩
abbrev cX12_isThere : ByteArray := prog_14_method_70_code
def yX12_isThere : MethodName := ⟨RX12, "isThere", "(II)Z"⟩
abbrev cX12_isOpenTo : ByteArray := prog_14_method_71_code
def yX12_isOpenTo : MethodName := ⟨RX12, "isOpenTo", "(III)Z"⟩
abbrev cX12_wished : ByteArray := prog_14_method_72_code
def yX12_wished : MethodName := ⟨RX12, "wished", "(IIII)I"⟩
abbrev cX12_writesDown : ByteArray := prog_14_method_73_code
def yX12_writesDown : MethodName := ⟨RX12, "writesDown", "(IIII)V"⟩
abbrev cX12_comes : ByteArray := prog_14_method_74_code
def yX12_comes : MethodName := ⟨RX12, "comes", "(III)I"⟩
abbrev cX12_asking : ByteArray := prog_14_method_75_code
def yX12_asking : MethodName := ⟨RX12, "asking", "(I)I"⟩
abbrev cX12_isOver : ByteArray := prog_14_method_76_code
def yX12_isOver : MethodName := ⟨RX12, "isOver", "(I)V"⟩
abbrev cX12_isBeast : ByteArray := prog_14_method_77_code
def yX12_isBeast : MethodName := ⟨RX12, "isBeast", "(I)Z"⟩
abbrev cX12_isGuest : ByteArray := prog_14_method_78_code
def yX12_isGuest : MethodName := ⟨RX12, "isGuest", "(I)Z"⟩
abbrev cX12_has : ByteArray := prog_14_method_79_code
def yX12_has : MethodName := ⟨RX12, "has", "(I)I"⟩
abbrev cX12_letter : ByteArray := prog_14_method_80_code
def yX12_letter : MethodName := ⟨RX12, "letter", "(III)I"⟩
abbrev cX12_beast : ByteArray := prog_14_method_81_code
def yX12_beast : MethodName := ⟨RX12, "beast", "(II)I"⟩
abbrev cX12_guest : ByteArray := prog_14_method_82_code
def yX12_guest : MethodName := ⟨RX12, "guest", "(II)I"⟩
abbrev cX12_between : ByteArray := prog_14_method_83_code
def yX12_between : MethodName := ⟨RX12, "between", "(III)I"⟩
abbrev cX12_isAhead : ByteArray := prog_14_method_84_code
def yX12_isAhead : MethodName := ⟨RX12, "isAhead", "(III)Z"⟩
abbrev cX12_asks : ByteArray := prog_14_method_85_code
def yX12_asks : MethodName := ⟨RX12, "asks", "(II)I"⟩
abbrev cX12_alone : ByteArray := prog_14_method_86_code
def yX12_alone : MethodName := ⟨RX12, "alone", "(I)I"⟩
abbrev cX12_bits : ByteArray := prog_14_method_87_code
def yX12_bits : MethodName := ⟨RX12, "bits", "(I)I"⟩
abbrev cX12_bring : ByteArray := prog_14_method_88_code
def yX12_bring : MethodName := ⟨RX12, "bring", "(I)I"⟩
abbrev cX12_isBest : ByteArray := prog_14_method_89_code
def yX12_isBest : MethodName := ⟨RX12, "isBest", "(III)Z"⟩
abbrev cX12_off : ByteArray := prog_14_method_90_code
def yX12_off : MethodName := ⟨RX12, "off", "(II)I"⟩
abbrev cX12_digit : ByteArray := prog_14_method_91_code
def yX12_digit : MethodName := ⟨RX12, "digit", "(II)I"⟩
abbrev cX12_dress : ByteArray := prog_14_method_92_code
def yX12_dress : MethodName := ⟨RX12, "dress", "(III)I"⟩
abbrev cX12_tell : ByteArray := prog_14_method_93_code
def yX12_tell : MethodName := ⟨RX12, "tell", "()I"⟩
abbrev cX12_suitsBy : ByteArray := prog_14_method_94_code
def yX12_suitsBy : MethodName := ⟨RX12, "suitsBy", "(II)I"⟩
abbrev cX12_isTaste : ByteArray := prog_14_method_95_code
def yX12_isTaste : MethodName := ⟨RX12, "isTaste", "(I)Z"⟩
abbrev cX12_tastes : ByteArray := prog_14_method_96_code
def yX12_tastes : MethodName := ⟨RX12, "tastes", "(I)I"⟩
abbrev cX12_send : ByteArray := prog_14_method_97_code
def yX12_send : MethodName := ⟨RX12, "send", "(I)I"⟩
abbrev cX12_pointed : ByteArray := prog_14_method_98_code
def yX12_pointed : MethodName := ⟨RX12, "pointed", "(II)I"⟩
abbrev cX12_isInRing : ByteArray := prog_14_method_99_code
def yX12_isInRing : MethodName := ⟨RX12, "isInRing", "(I)Z"⟩
abbrev cX12_round : ByteArray := prog_14_method_100_code
def yX12_round : MethodName := ⟨RX12, "round", "(II)I"⟩
abbrev cX12_walk : ByteArray := prog_14_method_101_code
def yX12_walk : MethodName := ⟨RX12, "walk", "(II)I"⟩
abbrev cX12_torn : ByteArray := prog_14_method_102_code
def yX12_torn : MethodName := ⟨RX12, "torn", "()I"⟩
abbrev cX12_hours : ByteArray := prog_14_method_103_code
def yX12_hours : MethodName := ⟨RX12, "hours", "(I)I"⟩
abbrev cX12_draw : ByteArray := prog_14_method_104_code
def yX12_draw : MethodName := ⟨RX12, "draw", "(I)I"⟩
abbrev cX12_chance : ByteArray := prog_14_method_105_code
def yX12_chance : MethodName := ⟨RX12, "chance", "(I)I"⟩
abbrev cX12_areNine : ByteArray := prog_14_method_106_code
def yX12_areNine : MethodName := ⟨RX12, "areNine", "(III)Z"⟩
abbrev cX12_change : ByteArray := prog_14_method_107_code
def yX12_change : MethodName := ⟨RX12, "change", "(IIII)Z"⟩
abbrev cX12_train : ByteArray := prog_14_method_108_code
def yX12_train : MethodName := ⟨RX12, "train", "(IIII)Z"⟩
abbrev cX12_swap : ByteArray := prog_14_method_109_code
def yX12_swap : MethodName := ⟨RX12, "swap", "(II)Z"⟩
abbrev cX12_seed : ByteArray := prog_14_method_110_code
def yX12_seed : MethodName := ⟨RX12, "seed", "(I)Z"⟩
abbrev cX12_kept : ByteArray := prog_14_method_111_code
def yX12_kept : MethodName := ⟨RX12, "kept", "(II)I"⟩
abbrev cX12_writes : ByteArray := prog_14_method_112_code
def yX12_writes : MethodName := ⟨RX12, "writes", "(I)V"⟩
abbrev cX12_writesTwo : ByteArray := prog_14_method_113_code
def yX12_writesTwo : MethodName := ⟨RX12, "writesTwo", "(I)V"⟩
abbrev cX12_image : ByteArray := prog_14_method_114_code
def yX12_image : MethodName := ⟨RX12, "image", "()I"⟩
abbrev cX12_octet : ByteArray := prog_14_method_115_code
def yX12_octet : MethodName := ⟨RX12, "octet", "(I)I"⟩
abbrev cX12_twoBytes : ByteArray := prog_14_method_116_code
def yX12_twoBytes : MethodName := ⟨RX12, "twoBytes", "(I)I"⟩
abbrev cX12_guestOn : ByteArray := prog_14_method_117_code
def yX12_guestOn : MethodName := ⟨RX12, "guestOn", "(II)Z"⟩
abbrev cX12_beastOn : ByteArray := prog_14_method_118_code
def yX12_beastOn : MethodName := ⟨RX12, "beastOn", "(II)Z"⟩
abbrev cX12_comesOn : ByteArray := prog_14_method_119_code
def yX12_comesOn : MethodName := ⟨RX12, "comesOn", "(I)Z"⟩
abbrev cX12_on : ByteArray := prog_14_method_120_code
def yX12_on : MethodName := ⟨RX12, "on", "()Z"⟩
def RJ6 : String := "java/lang/Integer"
def TJ6 : u_T := fun k => match k with
  | _ => ("", "", "", false)
def tyJ6 : Nat → FieldType := fun k => match k with
  | _ => .int
abbrev wsJ60 : List Cond := u_ws RJ6 TJ6 0
abbrev cJ6_bitCount_0f7a4 : ByteArray := prog_15_method_49_code
def yJ6_bitCount_0f7a4 : MethodName := ⟨RJ6, "bitCount", "(I)I"⟩
def RJ9 : String := "java/lang/Math"
def TJ9 : u_T := fun k => match k with
  | _ => ("", "", "", false)
def tyJ9 : Nat → FieldType := fun k => match k with
  | _ => .int
abbrev wsJ90 : List Cond := u_ws RJ9 TJ9 0
abbrev cJ9_floorDiv_7cf53 : ByteArray := prog_16_method_47_code
def yJ9_floorDiv_7cf53 : MethodName := ⟨RJ9, "floorDiv", "(II)I"⟩
abbrev cJ9_floorMod_7cf53 : ByteArray := prog_16_method_50_code
def yJ9_floorMod_7cf53 : MethodName := ⟨RJ9, "floorMod", "(II)I"⟩
abbrev cJ9_abs_0f7a4 : ByteArray := prog_16_method_59_code
def yJ9_abs_0f7a4 : MethodName := ⟨RJ9, "abs", "(I)I"⟩
abbrev cJ9_max_7cf53 : ByteArray := prog_16_method_65_code
def yJ9_max_7cf53 : MethodName := ⟨RJ9, "max", "(II)I"⟩
abbrev cJ9_max_f86c9 : ByteArray := prog_16_method_66_code
def yJ9_max_f86c9 : MethodName := ⟨RJ9, "max", "(JJ)J"⟩
abbrev cJ9_min_7cf53 : ByteArray := prog_16_method_69_code
def yJ9_min_7cf53 : MethodName := ⟨RJ9, "min", "(II)I"⟩
abbrev cJ9_min_f86c9 : ByteArray := prog_16_method_70_code
def yJ9_min_f86c9 : MethodName := ⟨RJ9, "min", "(JJ)J"⟩
def RJ0 : String := "java/lang/String"
def TJ0 : u_T := fun k => match k with
  | _ => ("", "", "", false)
def tyJ0 : Nat → FieldType := fun k => match k with
  | _ => .int
abbrev wsJ00 : List Cond := u_ws RJ0 TJ0 0
abbrev cJ0_length_8abf5 : ByteArray := prog_17_method_54_code
def yJ0_length_8abf5 : MethodName := ⟨RJ0, "length", "()I"⟩
abbrev cJ0_charAt_5068e : ByteArray := prog_17_method_56_code
def yJ0_charAt_5068e : MethodName := ⟨RJ0, "charAt", "(I)C"⟩
abbrev cJ0_coder_7d493 : ByteArray := prog_17_method_152_code
def yJ0_coder_7d493 : MethodName := ⟨RJ0, "coder", "()B"⟩
abbrev cJ0_isLatin1_aae02 : ByteArray := prog_17_method_154_code
def yJ0_isLatin1_aae02 : MethodName := ⟨RJ0, "isLatin1", "()Z"⟩
abbrev cJ0_checkIndex_df160 : ByteArray := prog_17_method_155_code
def yJ0_checkIndex_df160 : MethodName := ⟨RJ0, "checkIndex", "(II)V"⟩
def RJ1 : String := "java/lang/StringLatin1"
def TJ1 : u_T := fun k => match k with
  | _ => ("", "", "", false)
def tyJ1 : Nat → FieldType := fun k => match k with
  | _ => .int
abbrev wsJ10 : List Cond := u_ws RJ1 TJ1 0
abbrev cJ1_charAt_3b067 : ByteArray := prog_18_method_2_code
def yJ1_charAt_3b067 : MethodName := ⟨RJ1, "charAt", "([BI)C"⟩
def RJ2 : String := "java/lang/StringUTF16"
def TJ2 : u_T := fun k => match k with
  | _ => ("", "", "", false)
def tyJ2 : Nat → FieldType := fun k => match k with
  | _ => .int
abbrev wsJ20 : List Cond := u_ws RJ2 TJ2 0
abbrev cJ2_getChar_3b067 : ByteArray := prog_19_method_5_code
def yJ2_getChar_3b067 : MethodName := ⟨RJ2, "getChar", "([BI)C"⟩
abbrev cJ2_length_9d52b : ByteArray := prog_19_method_6_code
def yJ2_length_9d52b : MethodName := ⟨RJ2, "length", "([B)I"⟩
abbrev cJ2_charAt_3b067 : ByteArray := prog_19_method_83_code
def yJ2_charAt_3b067 : MethodName := ⟨RJ2, "charAt", "([BI)C"⟩
abbrev cJ2_checkIndex_2214a : ByteArray := prog_19_method_91_code
def yJ2_checkIndex_2214a : MethodName := ⟨RJ2, "checkIndex", "(I[B)V"⟩
def RJ10 : String := "java/lang/System"
def TJ10 : u_T := fun k => match k with
  | _ => ("", "", "", false)
def tyJ10 : Nat → FieldType := fun k => match k with
  | _ => .int
abbrev wsJ100 : List Cond := u_ws RJ10 TJ10 0
def RJ3 : String := "jdk/internal/util/Preconditions"
def TJ3 : u_T := fun k => match k with
  | _ => ("", "", "", false)
def tyJ3 : Nat → FieldType := fun k => match k with
  | _ => .int
abbrev wsJ30 : List Cond := u_ws RJ3 TJ3 0
abbrev cJ3_checkIndex_8e157 : ByteArray := prog_21_method_11_code
def yJ3_checkIndex_8e157 : MethodName := ⟨RJ3, "checkIndex", "(IILjava/util/function/BiFunction;)I"⟩
abbrev vwCl : List vw_C := [(RX0, TX0, 3), (RX1, TX1, 3), (RX2, TX2, 5), (RX3, TX3, 5), (RX4, TX4, 4), (RX5, TX5, 9), (RX6, TX6, 5), (RX7, TX7, 12), (RX8, TX8, 9), (RX9, TX9, 2), (RX10, TX10, 19), (RX11, TX11, 17), (RX12, TX12, 77)]
def TBL : List Cond := lw_tbl.filter goodWord
theorem inTB {w : Cond} (h : w ∈ tables_1) (g : goodWord w = true) : w ∈ TBL := List.mem_filter.mpr ⟨List.mem_append_right _ h, g⟩
theorem inT1 {w : Cond} (i : Nat) (h0 : tables_1_1[i]? = some w) (g : goodWord w = true) : w ∈ TBL := inTB (have h := List.mem_of_getElem? h0; List.mem_append_left _ h) g
theorem inT2 {w : Cond} (i : Nat) (h0 : tables_1_2[i]? = some w) (g : goodWord w = true) : w ∈ TBL := inTB (have h := List.mem_of_getElem? h0; List.mem_append_right _ (List.mem_append_left _ h)) g
theorem inT3 {w : Cond} (i : Nat) (h0 : tables_1_3[i]? = some w) (g : goodWord w = true) : w ∈ TBL := inTB (have h := List.mem_of_getElem? h0; List.mem_append_right _ (List.mem_append_right _ (List.mem_append_left _ h))) g
theorem inT4 {w : Cond} (i : Nat) (h0 : tables_1_4[i]? = some w) (g : goodWord w = true) : w ∈ TBL := inTB (have h := List.mem_of_getElem? h0; List.mem_append_right _ (List.mem_append_right _ (List.mem_append_right _ (List.mem_append_left _ h)))) g
theorem inT5 {w : Cond} (i : Nat) (h0 : tables_1_5[i]? = some w) (g : goodWord w = true) : w ∈ TBL := inTB (have h := List.mem_of_getElem? h0; List.mem_append_right _ (List.mem_append_right _ (List.mem_append_right _ (List.mem_append_right _ (List.mem_append_left _ h))))) g
theorem inT6 {w : Cond} (i : Nat) (h0 : tables_1_6[i]? = some w) (g : goodWord w = true) : w ∈ TBL := inTB (have h := List.mem_of_getElem? h0; List.mem_append_right _ (List.mem_append_right _ (List.mem_append_right _ (List.mem_append_right _ (List.mem_append_right _ (List.mem_append_left _ h)))))) g
theorem inT7 {w : Cond} (i : Nat) (h0 : tables_1_7[i]? = some w) (g : goodWord w = true) : w ∈ TBL := inTB (have h := List.mem_of_getElem? h0; List.mem_append_right _ (List.mem_append_right _ (List.mem_append_right _ (List.mem_append_right _ (List.mem_append_right _ (List.mem_append_right _ (List.mem_append_left _ h))))))) g
theorem inT8 {w : Cond} (i : Nat) (h0 : tables_1_8[i]? = some w) (g : goodWord w = true) : w ∈ TBL := inTB (have h := List.mem_of_getElem? h0; List.mem_append_right _ (List.mem_append_right _ (List.mem_append_right _ (List.mem_append_right _ (List.mem_append_right _ (List.mem_append_right _ (List.mem_append_right _ (List.mem_append_left _ h)))))))) g
theorem inT9 {w : Cond} (i : Nat) (h0 : tables_1_9[i]? = some w) (g : goodWord w = true) : w ∈ TBL := inTB (have h := List.mem_of_getElem? h0; List.mem_append_right _ (List.mem_append_right _ (List.mem_append_right _ (List.mem_append_right _ (List.mem_append_right _ (List.mem_append_right _ (List.mem_append_right _ (List.mem_append_right _ (h))))))))) g
theorem inTs {y : MethodName} {n : Nat} (h : (y, n) ∈ lw_privs) : Cond.selects y.cls y y ∈ TBL := List.mem_filter.mpr ⟨List.mem_append_left _ (List.mem_map.mpr ⟨(y, n), h, rfl⟩), rfl⟩
theorem goodTBL : TBL.all goodWord = true := List.all_eq_true.mpr fun w h => (List.mem_filter.mp h).2
theorem tbl_hts {args : Array Value} {s : State} (h : ∀ w ∈ lw_tbl, w.before args s = true) : ∀ w ∈ TBL, w.before args s = true := fun w hw => h w (List.mem_filter.mp hw).1
theorem goodInTBL {c : Cond} (h : c ∈ TBL) : GoodIn TBL (c :: TBL) := by
  intro w hw
  have hm : w ∈ TBL := (List.mem_cons.mp hw).elim (fun e => e ▸ h) id
  exact ⟨hm, good_of_word (List.mem_filter.mp hm).2⟩
def SLT : List (List Nat) := [[0, 2, 2], [2, 0, 2], [0, 0, 2, 2, 2], [2, 0, 3, 0, 4], [2, 2, 2, 2], [2, 0, 0, 3, 3, 4, 0, 0, 0], [2, 2, 2, 2, 0], [0, 0, 0, 2, 2, 2, 2, 2, 2, 2, 0, 0], [2, 0, 2, 2, 2, 0, 0, 2, 0], [2, 2], [0, 0, 2, 2, 2, 2, 2, 2, 2, 2, 2, 2, 2, 2, 0, 0, 0, 0, 0], [2, 2, 2, 2, 2, 2, 2, 2, 2, 2, 2, 2, 3, 3, 0, 0, 0], [2, 0, 0, 0, 0, 0, 0, 1, 0, 0, 0, 0, 0, 0, 2, 2, 2, 2, 2, 2, 2, 2, 2, 2, 2, 2, 2, 2, 2, 2, 2, 0, 0, 4, 2, 2, 2, 2, 2, 0, 0, 2, 0, 4, 2, 2, 2, 2, 2, 2, 2, 2, 2, 2, 2, 2, 0, 0, 1, 2, 2, 2, 2, 2, 2, 0, 2, 2, 2, 2, 2, 2, 2, 2, 2, 2, 0]]
def OFF : List (List Nat) := [[0, 1, 2], [1, 0, 2], [0, 0, 1, 2, 3], [1, 0, 0, 0, 0], [1, 2, 3, 4], [1, 0, 0, 0, 0, 0, 0, 0, 0], [1, 2, 3, 4, 0], [0, 0, 0, 1, 2, 3, 4, 5, 6, 7, 0, 0], [1, 0, 2, 3, 4, 0, 0, 5, 0], [1, 2], [0, 0, 1, 2, 3, 4, 5, 6, 7, 8, 9, 10, 11, 14, 0, 0, 0, 0, 0], [1, 2, 8, 16, 24, 25, 30, 40, 44, 49, 52, 54, 0, 0, 0, 0, 0], [1, 0, 0, 0, 0, 0, 0, 0, 0, 0, 0, 0, 0, 0, 2, 3, 4, 5, 6, 7, 8, 9, 10, 11, 12, 13, 14, 15, 16, 17, 18, 0, 0, 0, 19, 20, 21, 22, 23, 0, 0, 24, 0, 0, 25, 26, 27, 28, 29, 30, 31, 32, 33, 34, 35, 36, 0, 0, 0, 37, 38, 39, 40, 41, 42, 0, 43, 44, 45, 46, 47, 48, 49, 50, 51, 52, 0]]
def slT (ci k : Nat) : Nat := (SLT.getD ci []).getD k 0
def offs (ci k : Nat) : Nat := (OFF.getD ci []).getD k 0
def nF (ci : Nat) : Nat := (SLT.getD ci []).length
def KDC : List (Nat × Nat) := [(0, 11), (0, 5), (0, 8), (1, 1600), (1, 1601), (1, 1601), (1, 1601), (1, 30), (0, 7), (1, 24), (1, 8), (1, 8), (1, 18), (1, 48), (1, 48), (1, 60), (0, 7), (1, 24), (1, 8), (1, 8), (1, 18), (1, 48), (1, 48), (1, 60), (4, 20), (0, 4), (1, 48), (1, 6), (1, 4), (1, 9), (0, 0), (1, 6), (5, 7), (1, 256), (1, 256), (1, 256), (1, 256), (1, 256), (1, 256), (1, 256), (0, 2), (1, 3), (1, 32), (1, 1000), (0, 6), (1, 6), (1, 6), (1, 6), (1, 6), (0, 9), (1, 64), (1, 64), (0, 3), (1, 160), (1, 6), (0, 10), (1, 6), (1, 6), (1, 6), (1, 6), (1, 18), (1, 8), (1, 8), (1, 8), (1, 8), (1, 24), (0, 1), (1, 1600), (1, 64), (0, 1), (1, 1600), (1, 64), (0, 10), (1, 6), (1, 6), (1, 6), (1, 6), (1, 18), (1, 8), (1, 8), (1, 8), (1, 8), (1, 24), (0, 1), (1, 1600), (1, 64), (0, 1), (1, 1600), (1, 64), (0, 7), (1, 24), (1, 8), (1, 8), (1, 18), (1, 48), (1, 48), (1, 60), (0, 7), (1, 24), (1, 8), (1, 8), (1, 18), (1, 48), (1, 48), (1, 60), (0, 7), (1, 24), (1, 8), (1, 8), (1, 18), (1, 48), (1, 48), (1, 60), (0, 7), (1, 24), (1, 8), (1, 8), (1, 18), (1, 48), (1, 48), (1, 60), (0, 7), (1, 24), (1, 8), (1, 8), (1, 18), (1, 48), (1, 48), (1, 60), (0, 7), (1, 24), (1, 8), (1, 8), (1, 18), (1, 48), (1, 48), (1, 60), (0, 7), (1, 24), (1, 8), (1, 8), (1, 18), (1, 48), (1, 48), (1, 60), (0, 7), (1, 24), (1, 8), (1, 8), (1, 18), (1, 48), (1, 48), (1, 60), (0, 7), (1, 24), (1, 8), (1, 8), (1, 18), (1, 48), (1, 48), (1, 60), (0, 7), (1, 24), (1, 8), (1, 8), (1, 18), (1, 48), (1, 48), (1, 60), (0, 7), (1, 24), (1, 8), (1, 8), (1, 18), (1, 48), (1, 48), (1, 60), (0, 7), (1, 24), (1, 8), (1, 8), (1, 18), (1, 48), (1, 48), (1, 60), (0, 7), (1, 24), (1, 8), (1, 8), (1, 18), (1, 48), (1, 48), (1, 60), (0, 7), (1, 24), (1, 8), (1, 8), (1, 18), (1, 48), (1, 48), (1, 60), (0, 7), (1, 24), (1, 8), (1, 8), (1, 18), (1, 48), (1, 48), (1, 60), (0, 7), (1, 24), (1, 8), (1, 8), (1, 18), (1, 48), (1, 48), (1, 60), (0, 7), (1, 24), (1, 8), (1, 8), (1, 18), (1, 48), (1, 48), (1, 60), (0, 7), (1, 24), (1, 8), (1, 8), (1, 18), (1, 48), (1, 48), (1, 60), (0, 7), (1, 24), (1, 8), (1, 8), (1, 18), (1, 48), (1, 48), (1, 60), (0, 7), (1, 24), (1, 8), (1, 8), (1, 18), (1, 48), (1, 48), (1, 60)]
def KDM : List (Nat × Nat) := [(0, 12), (1, 1800), (1, 2), (1, 12), (1, 12), (1, 12), (1, 36), (1, 2), (1, 48), (1, 16), (1, 16), (1, 16), (1, 10), (1, 4), (1, 4), (1, 3200), (1, 3200), (2, 12), (2, 16), (1, 20), (1, 20), (3, 20), (1, 20), (1, 20), (1, 500), (1, 3), (1, 6), (1, 22), (1, 22), (1, 528), (1, 176), (1, 176), (1, 396), (1, 1056), (1, 1056), (1, 22), (1, 6600), (2, 500), (1, 12), (1, 6), (1, 6), (1, 1792), (1, 48), (1, 16), (1, 16), (1, 3), (1, 6), (1, 6), (1, 6), (1, 6), (1, 448), (1, 64), (1, 180)]
def kdC (id : Nat) : Nat × Nat := KDC.getD id (9, 0)
def kdM (id : Nat) : Nat × Nat := KDM.getD id (9, 0)
theorem kdC_lt {id : Nat} (h : (kdC id).1 ≠ 9) : id < 249 := by
  rcases Nat.lt_or_ge id 249 with q | q
  · exact q
  · exfalso; apply h; unfold kdC; rw [List.getD_eq_getElem?_getD, List.getElem?_eq_none (by rw [show KDC.length = 249 from by decide +kernel]; exact q)]; rfl
theorem kdC_0 : kdC 0 = (0, 11) := rfl
theorem kdC_1 : kdC 1 = (0, 5) := rfl
theorem kdC_2 : kdC 2 = (0, 8) := rfl
theorem kdC_3 : kdC 3 = (1, 1600) := rfl
theorem kdC_4 : kdC 4 = (1, 1601) := rfl
theorem kdC_5 : kdC 5 = (1, 1601) := rfl
theorem kdC_6 : kdC 6 = (1, 1601) := rfl
theorem kdC_7 : kdC 7 = (1, 30) := rfl
theorem kdC_8 : kdC 8 = (0, 7) := rfl
theorem kdC_9 : kdC 9 = (1, 24) := rfl
theorem kdC_10 : kdC 10 = (1, 8) := rfl
theorem kdC_11 : kdC 11 = (1, 8) := rfl
theorem kdC_12 : kdC 12 = (1, 18) := rfl
theorem kdC_13 : kdC 13 = (1, 48) := rfl
theorem kdC_14 : kdC 14 = (1, 48) := rfl
theorem kdC_15 : kdC 15 = (1, 60) := rfl
theorem kdC_16 : kdC 16 = (0, 7) := rfl
theorem kdC_17 : kdC 17 = (1, 24) := rfl
theorem kdC_18 : kdC 18 = (1, 8) := rfl
theorem kdC_19 : kdC 19 = (1, 8) := rfl
theorem kdC_20 : kdC 20 = (1, 18) := rfl
theorem kdC_21 : kdC 21 = (1, 48) := rfl
theorem kdC_22 : kdC 22 = (1, 48) := rfl
theorem kdC_23 : kdC 23 = (1, 60) := rfl
theorem kdC_24 : kdC 24 = (4, 20) := rfl
theorem kdC_25 : kdC 25 = (0, 4) := rfl
theorem kdC_26 : kdC 26 = (1, 48) := rfl
theorem kdC_27 : kdC 27 = (1, 6) := rfl
theorem kdC_28 : kdC 28 = (1, 4) := rfl
theorem kdC_29 : kdC 29 = (1, 9) := rfl
theorem kdC_30 : kdC 30 = (0, 0) := rfl
theorem kdC_31 : kdC 31 = (1, 6) := rfl
theorem kdC_32 : kdC 32 = (5, 7) := rfl
theorem kdC_33 : kdC 33 = (1, 256) := rfl
theorem kdC_34 : kdC 34 = (1, 256) := rfl
theorem kdC_35 : kdC 35 = (1, 256) := rfl
theorem kdC_36 : kdC 36 = (1, 256) := rfl
theorem kdC_37 : kdC 37 = (1, 256) := rfl
theorem kdC_38 : kdC 38 = (1, 256) := rfl
theorem kdC_39 : kdC 39 = (1, 256) := rfl
theorem kdC_40 : kdC 40 = (0, 2) := rfl
theorem kdC_41 : kdC 41 = (1, 3) := rfl
theorem kdC_42 : kdC 42 = (1, 32) := rfl
theorem kdC_43 : kdC 43 = (1, 1000) := rfl
theorem kdC_44 : kdC 44 = (0, 6) := rfl
theorem kdC_45 : kdC 45 = (1, 6) := rfl
theorem kdC_46 : kdC 46 = (1, 6) := rfl
theorem kdC_47 : kdC 47 = (1, 6) := rfl
theorem kdC_48 : kdC 48 = (1, 6) := rfl
theorem kdC_49 : kdC 49 = (0, 9) := rfl
theorem kdC_50 : kdC 50 = (1, 64) := rfl
theorem kdC_51 : kdC 51 = (1, 64) := rfl
theorem kdC_52 : kdC 52 = (0, 3) := rfl
theorem kdC_53 : kdC 53 = (1, 160) := rfl
theorem kdC_54 : kdC 54 = (1, 6) := rfl
theorem kdC_55 : kdC 55 = (0, 10) := rfl
theorem kdC_56 : kdC 56 = (1, 6) := rfl
theorem kdC_57 : kdC 57 = (1, 6) := rfl
theorem kdC_58 : kdC 58 = (1, 6) := rfl
theorem kdC_59 : kdC 59 = (1, 6) := rfl
theorem kdC_60 : kdC 60 = (1, 18) := rfl
theorem kdC_61 : kdC 61 = (1, 8) := rfl
theorem kdC_62 : kdC 62 = (1, 8) := rfl
theorem kdC_63 : kdC 63 = (1, 8) := rfl
theorem kdC_64 : kdC 64 = (1, 8) := rfl
theorem kdC_65 : kdC 65 = (1, 24) := rfl
theorem kdC_66 : kdC 66 = (0, 1) := rfl
theorem kdC_67 : kdC 67 = (1, 1600) := rfl
theorem kdC_68 : kdC 68 = (1, 64) := rfl
theorem kdC_69 : kdC 69 = (0, 1) := rfl
theorem kdC_70 : kdC 70 = (1, 1600) := rfl
theorem kdC_71 : kdC 71 = (1, 64) := rfl
theorem kdC_72 : kdC 72 = (0, 10) := rfl
theorem kdC_73 : kdC 73 = (1, 6) := rfl
theorem kdC_74 : kdC 74 = (1, 6) := rfl
theorem kdC_75 : kdC 75 = (1, 6) := rfl
theorem kdC_76 : kdC 76 = (1, 6) := rfl
theorem kdC_77 : kdC 77 = (1, 18) := rfl
theorem kdC_78 : kdC 78 = (1, 8) := rfl
theorem kdC_79 : kdC 79 = (1, 8) := rfl
theorem kdC_80 : kdC 80 = (1, 8) := rfl
theorem kdC_81 : kdC 81 = (1, 8) := rfl
theorem kdC_82 : kdC 82 = (1, 24) := rfl
theorem kdC_83 : kdC 83 = (0, 1) := rfl
theorem kdC_84 : kdC 84 = (1, 1600) := rfl
theorem kdC_85 : kdC 85 = (1, 64) := rfl
theorem kdC_86 : kdC 86 = (0, 1) := rfl
theorem kdC_87 : kdC 87 = (1, 1600) := rfl
theorem kdC_88 : kdC 88 = (1, 64) := rfl
theorem kdC_89 : kdC 89 = (0, 7) := rfl
theorem kdC_90 : kdC 90 = (1, 24) := rfl
theorem kdC_91 : kdC 91 = (1, 8) := rfl
theorem kdC_92 : kdC 92 = (1, 8) := rfl
theorem kdC_93 : kdC 93 = (1, 18) := rfl
theorem kdC_94 : kdC 94 = (1, 48) := rfl
theorem kdC_95 : kdC 95 = (1, 48) := rfl
theorem kdC_96 : kdC 96 = (1, 60) := rfl
theorem kdC_97 : kdC 97 = (0, 7) := rfl
theorem kdC_98 : kdC 98 = (1, 24) := rfl
theorem kdC_99 : kdC 99 = (1, 8) := rfl
theorem kdC_100 : kdC 100 = (1, 8) := rfl
theorem kdC_101 : kdC 101 = (1, 18) := rfl
theorem kdC_102 : kdC 102 = (1, 48) := rfl
theorem kdC_103 : kdC 103 = (1, 48) := rfl
theorem kdC_104 : kdC 104 = (1, 60) := rfl
theorem kdC_105 : kdC 105 = (0, 7) := rfl
theorem kdC_106 : kdC 106 = (1, 24) := rfl
theorem kdC_107 : kdC 107 = (1, 8) := rfl
theorem kdC_108 : kdC 108 = (1, 8) := rfl
theorem kdC_109 : kdC 109 = (1, 18) := rfl
theorem kdC_110 : kdC 110 = (1, 48) := rfl
theorem kdC_111 : kdC 111 = (1, 48) := rfl
theorem kdC_112 : kdC 112 = (1, 60) := rfl
theorem kdC_113 : kdC 113 = (0, 7) := rfl
theorem kdC_114 : kdC 114 = (1, 24) := rfl
theorem kdC_115 : kdC 115 = (1, 8) := rfl
theorem kdC_116 : kdC 116 = (1, 8) := rfl
theorem kdC_117 : kdC 117 = (1, 18) := rfl
theorem kdC_118 : kdC 118 = (1, 48) := rfl
theorem kdC_119 : kdC 119 = (1, 48) := rfl
theorem kdC_120 : kdC 120 = (1, 60) := rfl
theorem kdC_121 : kdC 121 = (0, 7) := rfl
theorem kdC_122 : kdC 122 = (1, 24) := rfl
theorem kdC_123 : kdC 123 = (1, 8) := rfl
theorem kdC_124 : kdC 124 = (1, 8) := rfl
theorem kdC_125 : kdC 125 = (1, 18) := rfl
theorem kdC_126 : kdC 126 = (1, 48) := rfl
theorem kdC_127 : kdC 127 = (1, 48) := rfl
theorem kdC_128 : kdC 128 = (1, 60) := rfl
theorem kdC_129 : kdC 129 = (0, 7) := rfl
theorem kdC_130 : kdC 130 = (1, 24) := rfl
theorem kdC_131 : kdC 131 = (1, 8) := rfl
theorem kdC_132 : kdC 132 = (1, 8) := rfl
theorem kdC_133 : kdC 133 = (1, 18) := rfl
theorem kdC_134 : kdC 134 = (1, 48) := rfl
theorem kdC_135 : kdC 135 = (1, 48) := rfl
theorem kdC_136 : kdC 136 = (1, 60) := rfl
theorem kdC_137 : kdC 137 = (0, 7) := rfl
theorem kdC_138 : kdC 138 = (1, 24) := rfl
theorem kdC_139 : kdC 139 = (1, 8) := rfl
theorem kdC_140 : kdC 140 = (1, 8) := rfl
theorem kdC_141 : kdC 141 = (1, 18) := rfl
theorem kdC_142 : kdC 142 = (1, 48) := rfl
theorem kdC_143 : kdC 143 = (1, 48) := rfl
theorem kdC_144 : kdC 144 = (1, 60) := rfl
theorem kdC_145 : kdC 145 = (0, 7) := rfl
theorem kdC_146 : kdC 146 = (1, 24) := rfl
theorem kdC_147 : kdC 147 = (1, 8) := rfl
theorem kdC_148 : kdC 148 = (1, 8) := rfl
theorem kdC_149 : kdC 149 = (1, 18) := rfl
theorem kdC_150 : kdC 150 = (1, 48) := rfl
theorem kdC_151 : kdC 151 = (1, 48) := rfl
theorem kdC_152 : kdC 152 = (1, 60) := rfl
theorem kdC_153 : kdC 153 = (0, 7) := rfl
theorem kdC_154 : kdC 154 = (1, 24) := rfl
theorem kdC_155 : kdC 155 = (1, 8) := rfl
theorem kdC_156 : kdC 156 = (1, 8) := rfl
theorem kdC_157 : kdC 157 = (1, 18) := rfl
theorem kdC_158 : kdC 158 = (1, 48) := rfl
theorem kdC_159 : kdC 159 = (1, 48) := rfl
theorem kdC_160 : kdC 160 = (1, 60) := rfl
theorem kdC_161 : kdC 161 = (0, 7) := rfl
theorem kdC_162 : kdC 162 = (1, 24) := rfl
theorem kdC_163 : kdC 163 = (1, 8) := rfl
theorem kdC_164 : kdC 164 = (1, 8) := rfl
theorem kdC_165 : kdC 165 = (1, 18) := rfl
theorem kdC_166 : kdC 166 = (1, 48) := rfl
theorem kdC_167 : kdC 167 = (1, 48) := rfl
theorem kdC_168 : kdC 168 = (1, 60) := rfl
theorem kdC_169 : kdC 169 = (0, 7) := rfl
theorem kdC_170 : kdC 170 = (1, 24) := rfl
theorem kdC_171 : kdC 171 = (1, 8) := rfl
theorem kdC_172 : kdC 172 = (1, 8) := rfl
theorem kdC_173 : kdC 173 = (1, 18) := rfl
theorem kdC_174 : kdC 174 = (1, 48) := rfl
theorem kdC_175 : kdC 175 = (1, 48) := rfl
theorem kdC_176 : kdC 176 = (1, 60) := rfl
theorem kdC_177 : kdC 177 = (0, 7) := rfl
theorem kdC_178 : kdC 178 = (1, 24) := rfl
theorem kdC_179 : kdC 179 = (1, 8) := rfl
theorem kdC_180 : kdC 180 = (1, 8) := rfl
theorem kdC_181 : kdC 181 = (1, 18) := rfl
theorem kdC_182 : kdC 182 = (1, 48) := rfl
theorem kdC_183 : kdC 183 = (1, 48) := rfl
theorem kdC_184 : kdC 184 = (1, 60) := rfl
theorem kdC_185 : kdC 185 = (0, 7) := rfl
theorem kdC_186 : kdC 186 = (1, 24) := rfl
theorem kdC_187 : kdC 187 = (1, 8) := rfl
theorem kdC_188 : kdC 188 = (1, 8) := rfl
theorem kdC_189 : kdC 189 = (1, 18) := rfl
theorem kdC_190 : kdC 190 = (1, 48) := rfl
theorem kdC_191 : kdC 191 = (1, 48) := rfl
theorem kdC_192 : kdC 192 = (1, 60) := rfl
theorem kdC_193 : kdC 193 = (0, 7) := rfl
theorem kdC_194 : kdC 194 = (1, 24) := rfl
theorem kdC_195 : kdC 195 = (1, 8) := rfl
theorem kdC_196 : kdC 196 = (1, 8) := rfl
theorem kdC_197 : kdC 197 = (1, 18) := rfl
theorem kdC_198 : kdC 198 = (1, 48) := rfl
theorem kdC_199 : kdC 199 = (1, 48) := rfl
theorem kdC_200 : kdC 200 = (1, 60) := rfl
theorem kdC_201 : kdC 201 = (0, 7) := rfl
theorem kdC_202 : kdC 202 = (1, 24) := rfl
theorem kdC_203 : kdC 203 = (1, 8) := rfl
theorem kdC_204 : kdC 204 = (1, 8) := rfl
theorem kdC_205 : kdC 205 = (1, 18) := rfl
theorem kdC_206 : kdC 206 = (1, 48) := rfl
theorem kdC_207 : kdC 207 = (1, 48) := rfl
theorem kdC_208 : kdC 208 = (1, 60) := rfl
theorem kdC_209 : kdC 209 = (0, 7) := rfl
theorem kdC_210 : kdC 210 = (1, 24) := rfl
theorem kdC_211 : kdC 211 = (1, 8) := rfl
theorem kdC_212 : kdC 212 = (1, 8) := rfl
theorem kdC_213 : kdC 213 = (1, 18) := rfl
theorem kdC_214 : kdC 214 = (1, 48) := rfl
theorem kdC_215 : kdC 215 = (1, 48) := rfl
theorem kdC_216 : kdC 216 = (1, 60) := rfl
theorem kdC_217 : kdC 217 = (0, 7) := rfl
theorem kdC_218 : kdC 218 = (1, 24) := rfl
theorem kdC_219 : kdC 219 = (1, 8) := rfl
theorem kdC_220 : kdC 220 = (1, 8) := rfl
theorem kdC_221 : kdC 221 = (1, 18) := rfl
theorem kdC_222 : kdC 222 = (1, 48) := rfl
theorem kdC_223 : kdC 223 = (1, 48) := rfl
theorem kdC_224 : kdC 224 = (1, 60) := rfl
theorem kdC_225 : kdC 225 = (0, 7) := rfl
theorem kdC_226 : kdC 226 = (1, 24) := rfl
theorem kdC_227 : kdC 227 = (1, 8) := rfl
theorem kdC_228 : kdC 228 = (1, 8) := rfl
theorem kdC_229 : kdC 229 = (1, 18) := rfl
theorem kdC_230 : kdC 230 = (1, 48) := rfl
theorem kdC_231 : kdC 231 = (1, 48) := rfl
theorem kdC_232 : kdC 232 = (1, 60) := rfl
theorem kdC_233 : kdC 233 = (0, 7) := rfl
theorem kdC_234 : kdC 234 = (1, 24) := rfl
theorem kdC_235 : kdC 235 = (1, 8) := rfl
theorem kdC_236 : kdC 236 = (1, 8) := rfl
theorem kdC_237 : kdC 237 = (1, 18) := rfl
theorem kdC_238 : kdC 238 = (1, 48) := rfl
theorem kdC_239 : kdC 239 = (1, 48) := rfl
theorem kdC_240 : kdC 240 = (1, 60) := rfl
theorem kdC_241 : kdC 241 = (0, 7) := rfl
theorem kdC_242 : kdC 242 = (1, 24) := rfl
theorem kdC_243 : kdC 243 = (1, 8) := rfl
theorem kdC_244 : kdC 244 = (1, 8) := rfl
theorem kdC_245 : kdC 245 = (1, 18) := rfl
theorem kdC_246 : kdC 246 = (1, 48) := rfl
theorem kdC_247 : kdC 247 = (1, 48) := rfl
theorem kdC_248 : kdC 248 = (1, 60) := rfl
theorem kdM_lt {id : Nat} (h : (kdM id).1 ≠ 9) : id < 53 := by
  rcases Nat.lt_or_ge id 53 with q | q
  · exact q
  · exfalso; apply h; unfold kdM; rw [List.getD_eq_getElem?_getD, List.getElem?_eq_none (by rw [show KDM.length = 53 from by decide +kernel]; exact q)]; rfl
theorem kdM_0 : kdM 0 = (0, 12) := rfl
theorem kdM_1 : kdM 1 = (1, 1800) := rfl
theorem kdM_2 : kdM 2 = (1, 2) := rfl
theorem kdM_3 : kdM 3 = (1, 12) := rfl
theorem kdM_4 : kdM 4 = (1, 12) := rfl
theorem kdM_5 : kdM 5 = (1, 12) := rfl
theorem kdM_6 : kdM 6 = (1, 36) := rfl
theorem kdM_7 : kdM 7 = (1, 2) := rfl
theorem kdM_8 : kdM 8 = (1, 48) := rfl
theorem kdM_9 : kdM 9 = (1, 16) := rfl
theorem kdM_10 : kdM 10 = (1, 16) := rfl
theorem kdM_11 : kdM 11 = (1, 16) := rfl
theorem kdM_12 : kdM 12 = (1, 10) := rfl
theorem kdM_13 : kdM 13 = (1, 4) := rfl
theorem kdM_14 : kdM 14 = (1, 4) := rfl
theorem kdM_15 : kdM 15 = (1, 3200) := rfl
theorem kdM_16 : kdM 16 = (1, 3200) := rfl
theorem kdM_17 : kdM 17 = (2, 12) := rfl
theorem kdM_18 : kdM 18 = (2, 16) := rfl
theorem kdM_19 : kdM 19 = (1, 20) := rfl
theorem kdM_20 : kdM 20 = (1, 20) := rfl
theorem kdM_21 : kdM 21 = (3, 20) := rfl
theorem kdM_22 : kdM 22 = (1, 20) := rfl
theorem kdM_23 : kdM 23 = (1, 20) := rfl
theorem kdM_24 : kdM 24 = (1, 500) := rfl
theorem kdM_25 : kdM 25 = (1, 3) := rfl
theorem kdM_26 : kdM 26 = (1, 6) := rfl
theorem kdM_27 : kdM 27 = (1, 22) := rfl
theorem kdM_28 : kdM 28 = (1, 22) := rfl
theorem kdM_29 : kdM 29 = (1, 528) := rfl
theorem kdM_30 : kdM 30 = (1, 176) := rfl
theorem kdM_31 : kdM 31 = (1, 176) := rfl
theorem kdM_32 : kdM 32 = (1, 396) := rfl
theorem kdM_33 : kdM 33 = (1, 1056) := rfl
theorem kdM_34 : kdM 34 = (1, 1056) := rfl
theorem kdM_35 : kdM 35 = (1, 22) := rfl
theorem kdM_36 : kdM 36 = (1, 6600) := rfl
theorem kdM_37 : kdM 37 = (2, 500) := rfl
theorem kdM_38 : kdM 38 = (1, 12) := rfl
theorem kdM_39 : kdM 39 = (1, 6) := rfl
theorem kdM_40 : kdM 40 = (1, 6) := rfl
theorem kdM_41 : kdM 41 = (1, 1792) := rfl
theorem kdM_42 : kdM 42 = (1, 48) := rfl
theorem kdM_43 : kdM 43 = (1, 16) := rfl
theorem kdM_44 : kdM 44 = (1, 16) := rfl
theorem kdM_45 : kdM 45 = (1, 3) := rfl
theorem kdM_46 : kdM 46 = (1, 6) := rfl
theorem kdM_47 : kdM 47 = (1, 6) := rfl
theorem kdM_48 : kdM 48 = (1, 6) := rfl
theorem kdM_49 : kdM 49 = (1, 6) := rfl
theorem kdM_50 : kdM 50 = (1, 448) := rfl
theorem kdM_51 : kdM 51 = (1, 64) := rfl
theorem kdM_52 : kdM 52 = (1, 180) := rfl
theorem kdC_s7_3 {o : Nat} (h : kdC o = (0, 7)) : kdC (o + 1) = (1, 24) := by
  have hl : o < 249 := kdC_lt (by rw [h]; decide)
  have hh : ∀ o, o < 249 → kdC o = (0, 7) → kdC (o + 1) = (1, 24) := by decide +kernel
  exact hh o hl h
theorem kdC_s7_4 {o : Nat} (h : kdC o = (0, 7)) : kdC (o + 2) = (1, 8) := by
  have hl : o < 249 := kdC_lt (by rw [h]; decide)
  have hh : ∀ o, o < 249 → kdC o = (0, 7) → kdC (o + 2) = (1, 8) := by decide +kernel
  exact hh o hl h
theorem kdC_s7_5 {o : Nat} (h : kdC o = (0, 7)) : kdC (o + 3) = (1, 8) := by
  have hl : o < 249 := kdC_lt (by rw [h]; decide)
  have hh : ∀ o, o < 249 → kdC o = (0, 7) → kdC (o + 3) = (1, 8) := by decide +kernel
  exact hh o hl h
theorem kdC_s7_6 {o : Nat} (h : kdC o = (0, 7)) : kdC (o + 4) = (1, 18) := by
  have hl : o < 249 := kdC_lt (by rw [h]; decide)
  have hh : ∀ o, o < 249 → kdC o = (0, 7) → kdC (o + 4) = (1, 18) := by decide +kernel
  exact hh o hl h
theorem kdC_s7_7 {o : Nat} (h : kdC o = (0, 7)) : kdC (o + 5) = (1, 48) := by
  have hl : o < 249 := kdC_lt (by rw [h]; decide)
  have hh : ∀ o, o < 249 → kdC o = (0, 7) → kdC (o + 5) = (1, 48) := by decide +kernel
  exact hh o hl h
theorem kdC_s7_8 {o : Nat} (h : kdC o = (0, 7)) : kdC (o + 6) = (1, 48) := by
  have hl : o < 249 := kdC_lt (by rw [h]; decide)
  have hh : ∀ o, o < 249 → kdC o = (0, 7) → kdC (o + 6) = (1, 48) := by decide +kernel
  exact hh o hl h
theorem kdC_s7_9 {o : Nat} (h : kdC o = (0, 7)) : kdC (o + 7) = (1, 60) := by
  have hl : o < 249 := kdC_lt (by rw [h]; decide)
  have hh : ∀ o, o < 249 → kdC o = (0, 7) → kdC (o + 7) = (1, 60) := by decide +kernel
  exact hh o hl h
theorem kdC_s10_2 {o : Nat} (h : kdC o = (0, 10)) : kdC (o + 1) = (1, 6) := by
  have hl : o < 249 := kdC_lt (by rw [h]; decide)
  have hh : ∀ o, o < 249 → kdC o = (0, 10) → kdC (o + 1) = (1, 6) := by decide +kernel
  exact hh o hl h
theorem kdC_s10_3 {o : Nat} (h : kdC o = (0, 10)) : kdC (o + 2) = (1, 6) := by
  have hl : o < 249 := kdC_lt (by rw [h]; decide)
  have hh : ∀ o, o < 249 → kdC o = (0, 10) → kdC (o + 2) = (1, 6) := by decide +kernel
  exact hh o hl h
theorem kdC_s10_4 {o : Nat} (h : kdC o = (0, 10)) : kdC (o + 3) = (1, 6) := by
  have hl : o < 249 := kdC_lt (by rw [h]; decide)
  have hh : ∀ o, o < 249 → kdC o = (0, 10) → kdC (o + 3) = (1, 6) := by decide +kernel
  exact hh o hl h
theorem kdC_s10_5 {o : Nat} (h : kdC o = (0, 10)) : kdC (o + 4) = (1, 6) := by
  have hl : o < 249 := kdC_lt (by rw [h]; decide)
  have hh : ∀ o, o < 249 → kdC o = (0, 10) → kdC (o + 4) = (1, 6) := by decide +kernel
  exact hh o hl h
theorem kdC_s10_6 {o : Nat} (h : kdC o = (0, 10)) : kdC (o + 5) = (1, 18) := by
  have hl : o < 249 := kdC_lt (by rw [h]; decide)
  have hh : ∀ o, o < 249 → kdC o = (0, 10) → kdC (o + 5) = (1, 18) := by decide +kernel
  exact hh o hl h
theorem kdC_s10_7 {o : Nat} (h : kdC o = (0, 10)) : kdC (o + 6) = (1, 8) := by
  have hl : o < 249 := kdC_lt (by rw [h]; decide)
  have hh : ∀ o, o < 249 → kdC o = (0, 10) → kdC (o + 6) = (1, 8) := by decide +kernel
  exact hh o hl h
theorem kdC_s10_8 {o : Nat} (h : kdC o = (0, 10)) : kdC (o + 7) = (1, 8) := by
  have hl : o < 249 := kdC_lt (by rw [h]; decide)
  have hh : ∀ o, o < 249 → kdC o = (0, 10) → kdC (o + 7) = (1, 8) := by decide +kernel
  exact hh o hl h
theorem kdC_s10_9 {o : Nat} (h : kdC o = (0, 10)) : kdC (o + 8) = (1, 8) := by
  have hl : o < 249 := kdC_lt (by rw [h]; decide)
  have hh : ∀ o, o < 249 → kdC o = (0, 10) → kdC (o + 8) = (1, 8) := by decide +kernel
  exact hh o hl h
theorem kdC_s10_10 {o : Nat} (h : kdC o = (0, 10)) : kdC (o + 9) = (1, 8) := by
  have hl : o < 249 := kdC_lt (by rw [h]; decide)
  have hh : ∀ o, o < 249 → kdC o = (0, 10) → kdC (o + 9) = (1, 8) := by decide +kernel
  exact hh o hl h
theorem kdC_s10_11 {o : Nat} (h : kdC o = (0, 10)) : kdC (o + 10) = (1, 24) := by
  have hl : o < 249 := kdC_lt (by rw [h]; decide)
  have hh : ∀ o, o < 249 → kdC o = (0, 10) → kdC (o + 10) = (1, 24) := by decide +kernel
  exact hh o hl h
theorem kdC_s10_12 {o : Nat} (h : kdC o = (0, 10)) : kdC (o + 11) = (0, 1) := by
  have hl : o < 249 := kdC_lt (by rw [h]; decide)
  have hh : ∀ o, o < 249 → kdC o = (0, 10) → kdC (o + 11) = (0, 1) := by decide +kernel
  exact hh o hl h
theorem kdC_s10_13 {o : Nat} (h : kdC o = (0, 10)) : kdC (o + 14) = (0, 1) := by
  have hl : o < 249 := kdC_lt (by rw [h]; decide)
  have hh : ∀ o, o < 249 → kdC o = (0, 10) → kdC (o + 14) = (0, 1) := by decide +kernel
  exact hh o hl h
theorem kdC_s1_0 {o : Nat} (h : kdC o = (0, 1)) : kdC (o + 1) = (1, 1600) := by
  have hl : o < 249 := kdC_lt (by rw [h]; decide)
  have hh : ∀ o, o < 249 → kdC o = (0, 1) → kdC (o + 1) = (1, 1600) := by decide +kernel
  exact hh o hl h
theorem kdC_s1_2 {o : Nat} (h : kdC o = (0, 1)) : kdC (o + 2) = (1, 64) := by
  have hl : o < 249 := kdC_lt (by rw [h]; decide)
  have hh : ∀ o, o < 249 → kdC o = (0, 1) → kdC (o + 2) = (1, 64) := by decide +kernel
  exact hh o hl h
theorem nF_ok : ∀ ci, ci < 13 → ∃ q : vw_C, vwCl[ci]? = some q ∧ q.2.2 = nF ci := by
  intro ci h
  match ci, h with
  | 0, _ => exact ⟨_, rfl, rfl⟩
  | 1, _ => exact ⟨_, rfl, rfl⟩
  | 2, _ => exact ⟨_, rfl, rfl⟩
  | 3, _ => exact ⟨_, rfl, rfl⟩
  | 4, _ => exact ⟨_, rfl, rfl⟩
  | 5, _ => exact ⟨_, rfl, rfl⟩
  | 6, _ => exact ⟨_, rfl, rfl⟩
  | 7, _ => exact ⟨_, rfl, rfl⟩
  | 8, _ => exact ⟨_, rfl, rfl⟩
  | 9, _ => exact ⟨_, rfl, rfl⟩
  | 10, _ => exact ⟨_, rfl, rfl⟩
  | 11, _ => exact ⟨_, rfl, rfl⟩
  | 12, _ => exact ⟨_, rfl, rfl⟩
theorem inX0 : ∀ w ∈ wsX00, w ∈ TBL := by
  have h : ∀ k, k < 3 → tables_1[([274, 276, 278] : List Nat).getD k 0]? = some (u_lay RX0 TX0 k) := by decide +kernel
  intro w hw
  obtain ⟨k, hk, rfl⟩ := List.mem_map.mp hw
  exact inTB (List.mem_of_getElem? (h k (List.mem_range.mp hk))) (by unfold u_lay; split <;> rfl)
theorem inX1 : ∀ w ∈ wsX10, w ∈ TBL := by
  have h : ∀ k, k < 3 → tables_1[([386, 388, 390] : List Nat).getD k 0]? = some (u_lay RX1 TX1 k) := by decide +kernel
  intro w hw
  obtain ⟨k, hk, rfl⟩ := List.mem_map.mp hw
  exact inTB (List.mem_of_getElem? (h k (List.mem_range.mp hk))) (by unfold u_lay; split <;> rfl)
theorem inX2 : ∀ w ∈ wsX20, w ∈ TBL := by
  have h : ∀ k, k < 5 → tables_1[([295, 297, 299, 301, 303] : List Nat).getD k 0]? = some (u_lay RX2 TX2 k) := by decide +kernel
  intro w hw
  obtain ⟨k, hk, rfl⟩ := List.mem_map.mp hw
  exact inTB (List.mem_of_getElem? (h k (List.mem_range.mp hk))) (by unfold u_lay; split <;> rfl)
theorem inX3 : ∀ w ∈ wsX30, w ∈ TBL := by
  have h : ∀ k, k < 5 → tables_1[([357, 359, 361, 363, 365] : List Nat).getD k 0]? = some (u_lay RX3 TX3 k) := by decide +kernel
  intro w hw
  obtain ⟨k, hk, rfl⟩ := List.mem_map.mp hw
  exact inTB (List.mem_of_getElem? (h k (List.mem_range.mp hk))) (by unfold u_lay; split <;> rfl)
theorem inX4 : ∀ w ∈ wsX40, w ∈ TBL := by
  have h : ∀ k, k < 4 → tables_1[([252, 254, 256, 258] : List Nat).getD k 0]? = some (u_lay RX4 TX4 k) := by decide +kernel
  intro w hw
  obtain ⟨k, hk, rfl⟩ := List.mem_map.mp hw
  exact inTB (List.mem_of_getElem? (h k (List.mem_range.mp hk))) (by unfold u_lay; split <;> rfl)
theorem inX5 : ∀ w ∈ wsX50, w ∈ TBL := by
  have h : ∀ k, k < 9 → tables_1[([146, 148, 150, 152, 154, 156, 158, 160, 162] : List Nat).getD k 0]? = some (u_lay RX5 TX5 k) := by decide +kernel
  intro w hw
  obtain ⟨k, hk, rfl⟩ := List.mem_map.mp hw
  exact inTB (List.mem_of_getElem? (h k (List.mem_range.mp hk))) (by unfold u_lay; split <;> rfl)
theorem inX6 : ∀ w ∈ wsX60, w ∈ TBL := by
  have h : ∀ k, k < 5 → tables_1[([320, 322, 324, 326, 328] : List Nat).getD k 0]? = some (u_lay RX6 TX6 k) := by decide +kernel
  intro w hw
  obtain ⟨k, hk, rfl⟩ := List.mem_map.mp hw
  exact inTB (List.mem_of_getElem? (h k (List.mem_range.mp hk))) (by unfold u_lay; split <;> rfl)
theorem inX7 : ∀ w ∈ wsX70, w ∈ TBL := by
  have h : ∀ k, k < 12 → tables_1[([213, 215, 217, 219, 221, 223, 225, 227, 229, 231, 233, 235] : List Nat).getD k 0]? = some (u_lay RX7 TX7 k) := by decide +kernel
  intro w hw
  obtain ⟨k, hk, rfl⟩ := List.mem_map.mp hw
  exact inTB (List.mem_of_getElem? (h k (List.mem_range.mp hk))) (by unfold u_lay; split <;> rfl)
theorem inX8 : ∀ w ∈ wsX80, w ∈ TBL := by
  have h : ∀ k, k < 9 → tables_1[([113, 115, 117, 119, 121, 123, 125, 127, 129] : List Nat).getD k 0]? = some (u_lay RX8 TX8 k) := by decide +kernel
  intro w hw
  obtain ⟨k, hk, rfl⟩ := List.mem_map.mp hw
  exact inTB (List.mem_of_getElem? (h k (List.mem_range.mp hk))) (by unfold u_lay; split <;> rfl)
theorem inX9 : ∀ w ∈ wsX90, w ∈ TBL := by
  have h : ∀ k, k < 2 → tables_1[([339, 341] : List Nat).getD k 0]? = some (u_lay RX9 TX9 k) := by decide +kernel
  intro w hw
  obtain ⟨k, hk, rfl⟩ := List.mem_map.mp hw
  exact inTB (List.mem_of_getElem? (h k (List.mem_range.mp hk))) (by unfold u_lay; split <;> rfl)
theorem inX10 : ∀ w ∈ wsX100, w ∈ TBL := by
  have h : ∀ k, k < 19 → tables_1[([453, 455, 457, 459, 461, 463, 465, 467, 469, 471, 473, 475, 477, 479, 481, 483, 485, 487, 489] : List Nat).getD k 0]? = some (u_lay RX10 TX10 k) := by decide +kernel
  intro w hw
  obtain ⟨k, hk, rfl⟩ := List.mem_map.mp hw
  exact inTB (List.mem_of_getElem? (h k (List.mem_range.mp hk))) (by unfold u_lay; split <;> rfl)
theorem inX11 : ∀ w ∈ wsX110, w ∈ TBL := by
  have h : ∀ k, k < 17 → tables_1[([509, 511, 513, 515, 517, 519, 521, 523, 525, 527, 529, 531, 533, 535, 537, 539, 541] : List Nat).getD k 0]? = some (u_lay RX11 TX11 k) := by decide +kernel
  intro w hw
  obtain ⟨k, hk, rfl⟩ := List.mem_map.mp hw
  exact inTB (List.mem_of_getElem? (h k (List.mem_range.mp hk))) (by unfold u_lay; split <;> rfl)
theorem inX12 : ∀ w ∈ wsX120, w ∈ TBL := by
  have h : ∀ k, k < 77 → tables_1[([1299, 1301, 1303, 1305, 1307, 1309, 1311, 1313, 1315, 1317, 1319, 1321, 1323, 1325, 1327, 1329, 1331, 1333, 1335, 1337, 1339, 1341, 1343, 1345, 1347, 1349, 1351, 1353, 1355, 1357, 1359, 1361, 1363, 1365, 1367, 1369, 1371, 1373, 1375, 1377, 1379, 1381, 1383, 1385, 1387, 1389, 1391, 1393, 1395, 1397, 1399, 1401, 1403, 1405, 1407, 1409, 1411, 1413, 1415, 1417, 1419, 1421, 1423, 1425, 1427, 1429, 1431, 1433, 1435, 1437, 1439, 1441, 1443, 1445, 1447, 1449, 1451] : List Nat).getD k 0]? = some (u_lay RX12 TX12 k) := by decide +kernel
  intro w hw
  obtain ⟨k, hk, rfl⟩ := List.mem_map.mp hw
  exact inTB (List.mem_of_getElem? (h k (List.mem_range.mp hk))) (by unfold u_lay; split <;> rfl)
def zdec (cc : ByteArray) (pc : Nat) (op : Instr) (len nx : Nat) : Prop := decode cc pc = .ok (op, len) ∧ pc + len = nx
def zbr (cc : ByteArray) (pc : Nat) (op : Instr) (nx : Nat) (off : Int) (tgt : Nat) : Prop := decode cc pc = .ok (op, 3) ∧ pc + 3 = nx ∧ (pc : Int) + off = (tgt : Int)
