def RX0 : String := "BuiltTwice$Alignment"
def TX0 : u_T := fun k => match k with
  | 0 => ("BuiltTwice$Alignment", "kinds", "[I", true)
  | 1 => ("BuiltTwice$Alignment", "places", "[I", true)
  | 2 => ("BuiltTwice$Alignment", "comes", "[I", true)
  | 3 => ("BuiltTwice$Alignment", "moves", "[I", true)
  | 4 => ("BuiltTwice$Alignment", "least", "[I", false)
  | 5 => ("BuiltTwice$Alignment", "leastBehind", "[I", false)
  | _ => ("BuiltTwice$Alignment", "size", "I", false)
def tyX0 : Nat → FieldType := fun k => match k with
  | 0 => .array .int
  | 1 => .array .int
  | 2 => .array .int
  | 3 => .array .int
  | 4 => .array .int
  | 5 => .array .int
  | _ => .int
abbrev wsX00 : List Cond := u_ws RX0 TX0 7
theorem nmX0 : ∀ a, a < 7 → ∀ b, b < 7 → a ≠ b → (TX0 a).2.1 ≠ (TX0 b).2.1 := by decide +kernel
theorem tyX0_ok : ∀ k, k < 7 → parseFieldDescriptor (TX0 k).2.2.1 = some (tyX0 k) := by decide +kernel
abbrev cX0_init : ByteArray := prog_2_method_1_code
def yX0_init : MethodName := ⟨RX0, "<init>", "()V"⟩
abbrev cX0_lay : ByteArray := prog_2_method_2_code
def yX0_lay : MethodName := ⟨RX0, "lay", "(LBuiltTwice$Row;LBuiltTwice$Row;)V"⟩
abbrev cX0_likeAhead : ByteArray := prog_2_method_3_code
def yX0_likeAhead : MethodName := ⟨RX0, "likeAhead", "(LBuiltTwice$Row;LBuiltTwice$Row;)I"⟩
abbrev cX0_chooseMoves : ByteArray := prog_2_method_4_code
def yX0_chooseMoves : MethodName := ⟨RX0, "chooseMoves", "(LBuiltTwice$Row;LBuiltTwice$Row;I)V"⟩
abbrev cX0_chooseMove : ByteArray := prog_2_method_5_code
def yX0_chooseMove : MethodName := ⟨RX0, "chooseMove", "(IIZ)V"⟩
abbrev cX0_moveAt : ByteArray := prog_2_method_6_code
def yX0_moveAt : MethodName := ⟨RX0, "moveAt", "(LBuiltTwice$Row;LBuiltTwice$Row;II)I"⟩
abbrev cX0_follow : ByteArray := prog_2_method_7_code
def yX0_follow : MethodName := ⟨RX0, "follow", "(LBuiltTwice$Row;LBuiltTwice$Row;I)V"⟩
abbrev cX0_note : ByteArray := prog_2_method_8_code
def yX0_note : MethodName := ⟨RX0, "note", "(III)V"⟩
def RX1 : String := "BuiltTwice$Build"
def TX1 : u_T := fun k => match k with
  | 0 => ("BuiltTwice$Build", "plan", "LBuiltTwice$Plan;", true)
  | 1 => ("BuiltTwice$Build", "texts", "LBuiltTwice$Texts;", true)
  | 2 => ("BuiltTwice$Build", "words", "[I", true)
  | 3 => ("BuiltTwice$Build", "things", "[LBuiltTwice$Row;", true)
  | 4 => ("BuiltTwice$Build", "fails", "[Z", true)
  | 5 => ("BuiltTwice$Build", "tally", "[I", true)
  | _ => ("BuiltTwice$Build", "stale", "I", false)
def tyX1 : Nat → FieldType := fun k => match k with
  | 0 => .object "BuiltTwice$Plan"
  | 1 => .object "BuiltTwice$Texts"
  | 2 => .array .int
  | 3 => .array (.object "BuiltTwice$Row")
  | 4 => .array .boolean
  | 5 => .array .int
  | _ => .int
abbrev wsX10 : List Cond := u_ws RX1 TX1 7
theorem nmX1 : ∀ a, a < 7 → ∀ b, b < 7 → a ≠ b → (TX1 a).2.1 ≠ (TX1 b).2.1 := by decide +kernel
theorem tyX1_ok : ∀ k, k < 7 → parseFieldDescriptor (TX1 k).2.2.1 = some (tyX1 k) := by decide +kernel
abbrev cX1_init : ByteArray := prog_3_method_1_code
def yX1_init : MethodName := ⟨RX1, "<init>", "(LBuiltTwice$Plan;LBuiltTwice$Texts;)V"⟩
abbrev cX1_open : ByteArray := prog_3_method_2_code
def yX1_open : MethodName := ⟨RX1, "open", "([I)V"⟩
abbrev cX1_makeIn : ByteArray := prog_3_method_3_code
def yX1_makeIn : MethodName := ⟨RX1, "makeIn", "([II)V"⟩
abbrev cX1_turn : ByteArray := prog_3_method_4_code
def yX1_turn : MethodName := ⟨RX1, "turn", "(II)V"⟩
abbrev cX1_make : ByteArray := prog_3_method_5_code
def yX1_make : MethodName := ⟨RX1, "make", "(I)V"⟩
abbrev cX1_wordsRead : ByteArray := prog_3_method_6_code
def yX1_wordsRead : MethodName := ⟨RX1, "wordsRead", "(I)I"⟩
abbrev cX1_hasGoodInputs : ByteArray := prog_3_method_7_code
def yX1_hasGoodInputs : MethodName := ⟨RX1, "hasGoodInputs", "(I)Z"⟩
abbrev cX1_inputRow : ByteArray := prog_3_method_8_code
def yX1_inputRow : MethodName := ⟨RX1, "inputRow", "(II)LBuiltTwice$Row;"⟩
abbrev cX1_runTool : ByteArray := prog_3_method_9_code
def yX1_runTool : MethodName := ⟨RX1, "runTool", "(ILBuiltTwice$Row;)Z"⟩
abbrev cX1_join : ByteArray := prog_3_method_10_code
def yX1_join : MethodName := ⟨RX1, "join", "(ILBuiltTwice$Row;Z)Z"⟩
abbrev cX1_strip : ByteArray := prog_3_method_11_code
def yX1_strip : MethodName := ⟨RX1, "strip", "(LBuiltTwice$Row;I)V"⟩
abbrev cX1_mask : ByteArray := prog_3_method_12_code
def yX1_mask : MethodName := ⟨RX1, "mask", "(LBuiltTwice$Row;I)V"⟩
abbrev cX1_sort : ByteArray := prog_3_method_13_code
def yX1_sort : MethodName := ⟨RX1, "sort", "(LBuiltTwice$Row;)V"⟩
abbrev cX1_sign : ByteArray := prog_3_method_14_code
def yX1_sign : MethodName := ⟨RX1, "sign", "(LBuiltTwice$Row;)V"⟩
def RX2 : String := "BuiltTwice$Makers"
def TX2 : u_T := fun k => match k with
  | 0 => ("BuiltTwice$Makers", "by", "[I", true)
  | 1 => ("BuiltTwice$Makers", "from", "[I", true)
  | _ => ("BuiltTwice$Makers", "forged", "I", false)
def tyX2 : Nat → FieldType := fun k => match k with
  | 0 => .array .int
  | 1 => .array .int
  | _ => .int
abbrev wsX20 : List Cond := u_ws RX2 TX2 3
theorem nmX2 : ∀ a, a < 3 → ∀ b, b < 3 → a ≠ b → (TX2 a).2.1 ≠ (TX2 b).2.1 := by decide +kernel
theorem tyX2_ok : ∀ k, k < 3 → parseFieldDescriptor (TX2 k).2.2.1 = some (tyX2 k) := by decide +kernel
abbrev cX2_init : ByteArray := prog_4_method_1_code
def yX2_init : MethodName := ⟨RX2, "<init>", "()V"⟩
abbrev cX2_way : ByteArray := prog_4_method_2_code
def yX2_way : MethodName := ⟨RX2, "way", "(I)I"⟩
abbrev cX2_ringStart : ByteArray := prog_4_method_3_code
def yX2_ringStart : MethodName := ⟨RX2, "ringStart", "(I)I"⟩
abbrev cX2_after : ByteArray := prog_4_method_4_code
def yX2_after : MethodName := ⟨RX2, "after", "(II)I"⟩
abbrev cX2_textsOn : ByteArray := prog_4_method_5_code
def yX2_textsOn : MethodName := ⟨RX2, "textsOn", "(I)I"⟩
abbrev cX2_seeds : ByteArray := prog_4_method_6_code
def yX2_seeds : MethodName := ⟨RX2, "seeds", "()I"⟩
def RX3 : String := "BuiltTwice$OrderTable"
def TX3 : u_T := fun k => match k with
  | 0 => ("BuiltTwice$OrderTable", "ways", "[J", false)
  | 1 => ("BuiltTwice$OrderTable", "before", "[I", true)
  | _ => ("BuiltTwice$OrderTable", "number", "[I", true)
def tyX3 : Nat → FieldType := fun k => match k with
  | 0 => .array .long
  | 1 => .array .int
  | _ => .array .int
abbrev wsX30 : List Cond := u_ws RX3 TX3 3
theorem nmX3 : ∀ a, a < 3 → ∀ b, b < 3 → a ≠ b → (TX3 a).2.1 ≠ (TX3 b).2.1 := by decide +kernel
theorem tyX3_ok : ∀ k, k < 3 → parseFieldDescriptor (TX3 k).2.2.1 = some (tyX3 k) := by decide +kernel
abbrev cX3_init : ByteArray := prog_5_method_1_code
def yX3_init : MethodName := ⟨RX3, "<init>", "()V"⟩
abbrev cX3_ordersOf : ByteArray := prog_5_method_2_code
def yX3_ordersOf : MethodName := ⟨RX3, "ordersOf", "(LBuiltTwice$Plan;I)J"⟩
abbrev cX3_numberOthers : ByteArray := prog_5_method_3_code
def yX3_numberOthers : MethodName := ⟨RX3, "numberOthers", "(LBuiltTwice$Plan;I)I"⟩
abbrev cX3_numberedInputs : ByteArray := prog_5_method_4_code
def yX3_numberedInputs : MethodName := ⟨RX3, "numberedInputs", "(LBuiltTwice$Plan;I)I"⟩
abbrev cX3_doOneMore : ByteArray := prog_5_method_5_code
def yX3_doOneMore : MethodName := ⟨RX3, "doOneMore", "(II)V"⟩
def RX4 : String := "BuiltTwice$Plan"
def TX4 : u_T := fun k => match k with
  | 0 => ("BuiltTwice$Plan", "tools", "[I", true)
  | 1 => ("BuiltTwice$Plan", "as", "[I", true)
  | 2 => ("BuiltTwice$Plan", "bs", "[I", true)
  | 3 => ("BuiltTwice$Plan", "inputs", "[I", true)
  | 4 => ("BuiltTwice$Plan", "inputCount", "[I", true)
  | 5 => ("BuiltTwice$Plan", "used", "[I", true)
  | 6 => ("BuiltTwice$Plan", "usedTexts", "[I", true)
  | 7 => ("BuiltTwice$Plan", "usedWords", "[I", true)
  | 8 => ("BuiltTwice$Plan", "size", "I", false)
  | _ => ("BuiltTwice$Plan", "taken", "I", false)
def tyX4 : Nat → FieldType := fun k => match k with
  | 0 => .array .int
  | 1 => .array .int
  | 2 => .array .int
  | 3 => .array .int
  | 4 => .array .int
  | 5 => .array .int
  | 6 => .array .int
  | 7 => .array .int
  | 8 => .int
  | _ => .int
abbrev wsX40 : List Cond := u_ws RX4 TX4 10
theorem nmX4 : ∀ a, a < 10 → ∀ b, b < 10 → a ≠ b → (TX4 a).2.1 ≠ (TX4 b).2.1 := by decide +kernel
theorem tyX4_ok : ∀ k, k < 10 → parseFieldDescriptor (TX4 k).2.2.1 = some (tyX4 k) := by decide +kernel
abbrev cX4_init : ByteArray := prog_6_method_1_code
def yX4_init : MethodName := ⟨RX4, "<init>", "()V"⟩
abbrev cX4_addStep : ByteArray := prog_6_method_2_code
def yX4_addStep : MethodName := ⟨RX4, "addStep", "(III)I"⟩
abbrev cX4_addInput : ByteArray := prog_6_method_3_code
def yX4_addInput : MethodName := ⟨RX4, "addInput", "(II)I"⟩
abbrev cX4_input : ByteArray := prog_6_method_4_code
def yX4_input : MethodName := ⟨RX4, "input", "(II)I"⟩
abbrev cX4_ownWord : ByteArray := prog_6_method_5_code
def yX4_ownWord : MethodName := ⟨RX4, "ownWord", "(I)I"⟩
abbrev cX4_stepsReachedBy : ByteArray := prog_6_method_6_code
def yX4_stepsReachedBy : MethodName := ⟨RX4, "stepsReachedBy", "(I)I"⟩
def RX5 : String := "BuiltTwice$Row"
def TX5 : u_T := fun k => match k with
  | 0 => ("BuiltTwice$Row", "most", "I", true)
  | 1 => ("BuiltTwice$Row", "bytes", "[I", false)
  | _ => ("BuiltTwice$Row", "size", "I", false)
def tyX5 : Nat → FieldType := fun k => match k with
  | 0 => .int
  | 1 => .array .int
  | _ => .int
abbrev wsX50 : List Cond := u_ws RX5 TX5 3
theorem nmX5 : ∀ a, a < 3 → ∀ b, b < 3 → a ≠ b → (TX5 a).2.1 ≠ (TX5 b).2.1 := by decide +kernel
theorem tyX5_ok : ∀ k, k < 3 → parseFieldDescriptor (TX5 k).2.2.1 = some (tyX5 k) := by decide +kernel
abbrev cX5_init : ByteArray := prog_7_method_1_code
def yX5_init : MethodName := ⟨RX5, "<init>", "(I)V"⟩
abbrev cX5_put : ByteArray := prog_7_method_2_code
def yX5_put : MethodName := ⟨RX5, "put", "(I)Z"⟩
abbrev cX5_append : ByteArray := prog_7_method_3_code
def yX5_append : MethodName := ⟨RX5, "append", "(LBuiltTwice$Row;)Z"⟩
abbrev cX5_makeSpaceFor : ByteArray := prog_7_method_4_code
def yX5_makeSpaceFor : MethodName := ⟨RX5, "makeSpaceFor", "(I)Z"⟩
abbrev cX5_isSameAs : ByteArray := prog_7_method_5_code
def yX5_isSameAs : MethodName := ⟨RX5, "isSameAs", "(LBuiltTwice$Row;)Z"⟩
def RX6 : String := "BuiltTwice$Texts"
def TX6 : u_T := fun k => match k with
  | 0 => ("BuiltTwice$Texts", "tape", "LBuiltTwice$Row;", true)
  | 1 => ("BuiltTwice$Texts", "rows", "[LBuiltTwice$Row;", true)
  | 2 => ("BuiltTwice$Texts", "size", "I", false)
  | _ => ("BuiltTwice$Texts", "lacking", "I", false)
def tyX6 : Nat → FieldType := fun k => match k with
  | 0 => .object "BuiltTwice$Row"
  | 1 => .array (.object "BuiltTwice$Row")
  | 2 => .int
  | _ => .int
abbrev wsX60 : List Cond := u_ws RX6 TX6 4
theorem nmX6 : ∀ a, a < 4 → ∀ b, b < 4 → a ≠ b → (TX6 a).2.1 ≠ (TX6 b).2.1 := by decide +kernel
theorem tyX6_ok : ∀ k, k < 4 → parseFieldDescriptor (TX6 k).2.2.1 = some (tyX6 k) := by decide +kernel
abbrev cX6_init : ByteArray := prog_8_method_1_code
def yX6_init : MethodName := ⟨RX6, "<init>", "()V"⟩
abbrev cX6_tapeTo : ByteArray := prog_8_method_2_code
def yX6_tapeTo : MethodName := ⟨RX6, "tapeTo", "(I)I"⟩
def RX7 : String := "BuiltTwice"
def TX7 : u_T := fun k => match k with
  | 0 => ("BuiltTwice", "texts", "LBuiltTwice$Texts;", true)
  | 1 => ("BuiltTwice", "plan", "LBuiltTwice$Plan;", true)
  | 2 => ("BuiltTwice", "words", "[[I", true)
  | 3 => ("BuiltTwice", "first", "LBuiltTwice$Build;", true)
  | 4 => ("BuiltTwice", "second", "LBuiltTwice$Build;", true)
  | 5 => ("BuiltTwice", "alignment", "LBuiltTwice$Alignment;", true)
  | 6 => ("BuiltTwice", "orderTable", "LBuiltTwice$OrderTable;", true)
  | _ => ("BuiltTwice", "makers", "LBuiltTwice$Makers;", true)
def tyX7 : Nat → FieldType := fun k => match k with
  | 0 => .object "BuiltTwice$Texts"
  | 1 => .object "BuiltTwice$Plan"
  | 2 => .array (.array .int)
  | 3 => .object "BuiltTwice$Build"
  | 4 => .object "BuiltTwice$Build"
  | 5 => .object "BuiltTwice$Alignment"
  | 6 => .object "BuiltTwice$OrderTable"
  | _ => .object "BuiltTwice$Makers"
abbrev wsX70 : List Cond := u_ws RX7 TX7 8
theorem nmX7 : ∀ a, a < 8 → ∀ b, b < 8 → a ≠ b → (TX7 a).2.1 ≠ (TX7 b).2.1 := by decide +kernel
theorem tyX7_ok : ∀ k, k < 8 → parseFieldDescriptor (TX7 k).2.2.1 = some (tyX7 k) := by decide +kernel
abbrev cX7_init : ByteArray := prog_1_method_1_code
def yX7_init : MethodName := ⟨RX7, "<init>", "()V"⟩
abbrev cX7_feed : ByteArray := prog_1_method_2_code
def yX7_feed : MethodName := ⟨RX7, "feed", "(II)I"⟩
abbrev cX7_text : ByteArray := prog_1_method_3_code
def yX7_text : MethodName := ⟨RX7, "text", "()I"⟩
abbrev cX7_write : ByteArray := prog_1_method_4_code
def yX7_write : MethodName := ⟨RX7, "write", "(I)I"⟩
abbrev cX7_lack : ByteArray := prog_1_method_5_code
def yX7_lack : MethodName := ⟨RX7, "lack", "(II)I"⟩
abbrev cX7_word : ByteArray := prog_1_method_6_code
def yX7_word : MethodName := ⟨RX7, "word", "(III)I"⟩
abbrev cX7_copy : ByteArray := prog_1_method_7_code
def yX7_copy : MethodName := ⟨RX7, "copy", "(II)I"⟩
abbrev cX7_step : ByteArray := prog_1_method_8_code
def yX7_step : MethodName := ⟨RX7, "step", "(III)I"⟩
abbrev cX7_need : ByteArray := prog_1_method_9_code
def yX7_need : MethodName := ⟨RX7, "need", "(II)I"⟩
abbrev cX7_made : ByteArray := prog_1_method_10_code
def yX7_made : MethodName := ⟨RX7, "made", "(II)I"⟩
abbrev cX7_at : ByteArray := prog_1_method_11_code
def yX7_at : MethodName := ⟨RX7, "at", "(III)I"⟩
abbrev cX7_reads : ByteArray := prog_1_method_12_code
def yX7_reads : MethodName := ⟨RX7, "reads", "(III)I"⟩
abbrev cX7_uses : ByteArray := prog_1_method_13_code
def yX7_uses : MethodName := ⟨RX7, "uses", "(II)I"⟩
abbrev cX7_orders : ByteArray := prog_1_method_14_code
def yX7_orders : MethodName := ⟨RX7, "orders", "(I)J"⟩
abbrev cX7_built : ByteArray := prog_1_method_15_code
def yX7_built : MethodName := ⟨RX7, "built", "(I)I"⟩
abbrev cX7_alike : ByteArray := prog_1_method_16_code
def yX7_alike : MethodName := ⟨RX7, "alike", "(III)I"⟩
abbrev cX7_changes : ByteArray := prog_1_method_17_code
def yX7_changes : MethodName := ⟨RX7, "changes", "(III)I"⟩
abbrev cX7_change : ByteArray := prog_1_method_18_code
def yX7_change : MethodName := ⟨RX7, "change", "(II)I"⟩
abbrev cX7_cause : ByteArray := prog_1_method_19_code
def yX7_cause : MethodName := ⟨RX7, "cause", "(III)I"⟩
abbrev cX7_fix : ByteArray := prog_1_method_20_code
def yX7_fix : MethodName := ⟨RX7, "fix", "(III)I"⟩
abbrev cX7_stable : ByteArray := prog_1_method_21_code
def yX7_stable : MethodName := ⟨RX7, "stable", "(IIII)I"⟩
abbrev cX7_breaks : ByteArray := prog_1_method_22_code
def yX7_breaks : MethodName := ⟨RX7, "breaks", "(III)I"⟩
abbrev cX7_rooms : ByteArray := prog_1_method_23_code
def yX7_rooms : MethodName := ⟨RX7, "rooms", "(II)I"⟩
abbrev cX7_maker : ByteArray := prog_1_method_24_code
def yX7_maker : MethodName := ⟨RX7, "maker", "(III)I"⟩
abbrev cX7_down : ByteArray := prog_1_method_25_code
def yX7_down : MethodName := ⟨RX7, "down", "(I)I"⟩
abbrev cX7_ring : ByteArray := prog_1_method_26_code
def yX7_ring : MethodName := ⟨RX7, "ring", "(II)I"⟩
abbrev cX7_needs : ByteArray := prog_1_method_27_code
def yX7_needs : MethodName := ⟨RX7, "needs", "(II)I"⟩
abbrev cX7_forge : ByteArray := prog_1_method_28_code
def yX7_forge : MethodName := ⟨RX7, "forge", "(II)I"⟩
abbrev cX7_trust : ByteArray := prog_1_method_29_code
def yX7_trust : MethodName := ⟨RX7, "trust", "(I)I"⟩
abbrev cX7_heirs : ByteArray := prog_1_method_30_code
def yX7_heirs : MethodName := ⟨RX7, "heirs", "(I)I"⟩
abbrev cX7_count : ByteArray := prog_1_method_31_code
def yX7_count : MethodName := ⟨RX7, "count", "(I)I"⟩
abbrev cX7_isText : ByteArray := prog_1_method_32_code
def yX7_isText : MethodName := ⟨RX7, "isText", "(I)Z"⟩
abbrev cX7_isStep : ByteArray := prog_1_method_33_code
def yX7_isStep : MethodName := ⟨RX7, "isStep", "(I)Z"⟩
abbrev cX7_isInputFor : ByteArray := prog_1_method_34_code
def yX7_isInputFor : MethodName := ⟨RX7, "isInputFor", "(II)Z"⟩
abbrev cX7_isRoom : ByteArray := prog_1_method_35_code
def yX7_isRoom : MethodName := ⟨RX7, "isRoom", "(I)Z"⟩
abbrev cX7_areRooms : ByteArray := prog_1_method_36_code
def yX7_areRooms : MethodName := ⟨RX7, "areRooms", "(II)Z"⟩
abbrev cX7_isWord : ByteArray := prog_1_method_37_code
def yX7_isWord : MethodName := ⟨RX7, "isWord", "(I)Z"⟩
abbrev cX7_isMaker : ByteArray := prog_1_method_38_code
def yX7_isMaker : MethodName := ⟨RX7, "isMaker", "(I)Z"⟩
abbrev cX7_isBit : ByteArray := prog_1_method_39_code
def yX7_isBit : MethodName := ⟨RX7, "isBit", "(I)Z"⟩
abbrev cX7_withBit : ByteArray := prog_1_method_40_code
def yX7_withBit : MethodName := ⟨RX7, "withBit", "(III)I"⟩
abbrev cX7_isPart : ByteArray := prog_1_method_41_code
def yX7_isPart : MethodName := ⟨RX7, "isPart", "(III)Z"⟩
abbrev cX7_unlikeWords : ByteArray := prog_1_method_42_code
def yX7_unlikeWords : MethodName := ⟨RX7, "unlikeWords", "(II)I"⟩
abbrev cX7_wordsUnlikeIn : ByteArray := prog_1_method_43_code
def yX7_wordsUnlikeIn : MethodName := ⟨RX7, "wordsUnlikeIn", "(I)I"⟩
abbrev cX7_buildBoth : ByteArray := prog_1_method_44_code
def yX7_buildBoth : MethodName := ⟨RX7, "buildBoth", "(III)V"⟩
abbrev cX7_sameThing : ByteArray := prog_1_method_45_code
def yX7_sameThing : MethodName := ⟨RX7, "sameThing", "(I)Z"⟩
abbrev cX7_isFixedBy : ByteArray := prog_1_method_46_code
def yX7_isFixedBy : MethodName := ⟨RX7, "isFixedBy", "(IIII)Z"⟩
abbrev cX7_firstUnlike : ByteArray := prog_1_method_47_code
def yX7_firstUnlike : MethodName := ⟨RX7, "firstUnlike", "(IIII)I"⟩
def RX8 : String := "BuiltTwiceModel"
def TX8 : u_T := fun k => match k with
  | 0 => ("BuiltTwiceModel", "code", "I", false)
  | 1 => ("BuiltTwiceModel", "tape", "[I", true)
  | 2 => ("BuiltTwiceModel", "taped", "I", false)
  | 3 => ("BuiltTwiceModel", "texts", "I", false)
  | 4 => ("BuiltTwiceModel", "textSize", "[I", true)
  | 5 => ("BuiltTwiceModel", "textBytes", "[I", true)
  | 6 => ("BuiltTwiceModel", "lacking", "[Z", true)
  | 7 => ("BuiltTwiceModel", "words", "[I", true)
  | 8 => ("BuiltTwiceModel", "steps", "I", false)
  | 9 => ("BuiltTwiceModel", "tool", "[I", true)
  | 10 => ("BuiltTwiceModel", "a", "[I", true)
  | 11 => ("BuiltTwiceModel", "b", "[I", true)
  | 12 => ("BuiltTwiceModel", "inputs", "[I", true)
  | 13 => ("BuiltTwiceModel", "input", "[I", true)
  | 14 => ("BuiltTwiceModel", "hand", "[I", true)
  | 15 => ("BuiltTwiceModel", "size", "[I", true)
  | 16 => ("BuiltTwiceModel", "bytes", "[I", true)
  | 17 => ("BuiltTwiceModel", "joined", "[I", true)
  | 18 => ("BuiltTwiceModel", "many", "I", false)
  | 19 => ("BuiltTwiceModel", "ofByte", "[I", true)
  | 20 => ("BuiltTwiceModel", "place", "[I", true)
  | 21 => ("BuiltTwiceModel", "needs", "[I", true)
  | 22 => ("BuiltTwiceModel", "ways", "[J", true)
  | 23 => ("BuiltTwiceModel", "far", "[I", true)
  | 24 => ("BuiltTwiceModel", "changed", "I", false)
  | 25 => ("BuiltTwiceModel", "changeKind", "[I", true)
  | 26 => ("BuiltTwiceModel", "changePlace", "[I", true)
  | 27 => ("BuiltTwiceModel", "changeByte", "[I", true)
  | 28 => ("BuiltTwiceModel", "by", "[I", true)
  | 29 => ("BuiltTwiceModel", "from", "[I", true)
  | 30 => ("BuiltTwiceModel", "forged", "[Z", true)
  | 31 => ("BuiltTwiceModel", "seen", "[Z", true)
  | _ => ("BuiltTwiceModel", "used", "[Z", true)
def tyX8 : Nat → FieldType := fun k => match k with
  | 0 => .int
  | 1 => .array .int
  | 2 => .int
  | 3 => .int
  | 4 => .array .int
  | 5 => .array .int
  | 6 => .array .boolean
  | 7 => .array .int
  | 8 => .int
  | 9 => .array .int
  | 10 => .array .int
  | 11 => .array .int
  | 12 => .array .int
  | 13 => .array .int
  | 14 => .array .int
  | 15 => .array .int
  | 16 => .array .int
  | 17 => .array .int
  | 18 => .int
  | 19 => .array .int
  | 20 => .array .int
  | 21 => .array .int
  | 22 => .array .long
  | 23 => .array .int
  | 24 => .int
  | 25 => .array .int
  | 26 => .array .int
  | 27 => .array .int
  | 28 => .array .int
  | 29 => .array .int
  | 30 => .array .boolean
  | 31 => .array .boolean
  | _ => .array .boolean
abbrev wsX80 : List Cond := u_ws RX8 TX8 33
theorem nmX8 : ∀ a, a < 33 → ∀ b, b < 33 → a ≠ b → (TX8 a).2.1 ≠ (TX8 b).2.1 := by decide +kernel
theorem tyX8_ok : ∀ k, k < 33 → parseFieldDescriptor (TX8 k).2.2.1 = some (tyX8 k) := by decide +kernel
abbrev cX8_init : ByteArray := prog_10_method_1_code
def yX8_init : MethodName := ⟨RX8, "<init>", "()V"⟩
abbrev cX8_in : ByteArray := prog_10_method_3_code
def yX8_in : MethodName := ⟨RX8, "in", "(III)Z"⟩
abbrev cX8_feed : ByteArray := prog_10_method_4_code
def yX8_feed : MethodName := ⟨RX8, "feed", "(II)I"⟩
abbrev cX8_keep : ByteArray := prog_10_method_5_code
def yX8_keep : MethodName := ⟨RX8, "keep", "(I)I"⟩
abbrev cX8_text : ByteArray := prog_10_method_6_code
def yX8_text : MethodName := ⟨RX8, "text", "()I"⟩
abbrev cX8_isText : ByteArray := prog_10_method_7_code
def yX8_isText : MethodName := ⟨RX8, "isText", "(I)Z"⟩
abbrev cX8_isStep : ByteArray := prog_10_method_8_code
def yX8_isStep : MethodName := ⟨RX8, "isStep", "(I)Z"⟩
abbrev cX8_isRoom : ByteArray := prog_10_method_9_code
def yX8_isRoom : MethodName := ⟨RX8, "isRoom", "(I)Z"⟩
abbrev cX8_isWord : ByteArray := prog_10_method_10_code
def yX8_isWord : MethodName := ⟨RX8, "isWord", "(I)Z"⟩
abbrev cX8_write : ByteArray := prog_10_method_11_code
def yX8_write : MethodName := ⟨RX8, "write", "(I)I"⟩
abbrev cX8_lack : ByteArray := prog_10_method_12_code
def yX8_lack : MethodName := ⟨RX8, "lack", "(II)I"⟩
abbrev cX8_word : ByteArray := prog_10_method_13_code
def yX8_word : MethodName := ⟨RX8, "word", "(III)I"⟩
abbrev cX8_copy : ByteArray := prog_10_method_14_code
def yX8_copy : MethodName := ⟨RX8, "copy", "(II)I"⟩
abbrev cX8_step : ByteArray := prog_10_method_15_code
def yX8_step : MethodName := ⟨RX8, "step", "(III)I"⟩
abbrev cX8_need : ByteArray := prog_10_method_16_code
def yX8_need : MethodName := ⟨RX8, "need", "(II)I"⟩
abbrev cX8_take : ByteArray := prog_10_method_17_code
def yX8_take : MethodName := ⟨RX8, "take", "(I)V"⟩
abbrev cX8_sizeOf : ByteArray := prog_10_method_18_code
def yX8_sizeOf : MethodName := ⟨RX8, "sizeOf", "(II)I"⟩
abbrev cX8_byteOf : ByteArray := prog_10_method_19_code
def yX8_byteOf : MethodName := ⟨RX8, "byteOf", "(III)I"⟩
abbrev cX8_add : ByteArray := prog_10_method_20_code
def yX8_add : MethodName := ⟨RX8, "add", "(II)V"⟩
abbrev cX8_isReady : ByteArray := prog_10_method_21_code
def yX8_isReady : MethodName := ⟨RX8, "isReady", "(II)Z"⟩
abbrev cX8_join : ByteArray := prog_10_method_22_code
def yX8_join : MethodName := ⟨RX8, "join", "(II)V"⟩
abbrev cX8_strip : ByteArray := prog_10_method_23_code
def yX8_strip : MethodName := ⟨RX8, "strip", "(I)V"⟩
abbrev cX8_sort : ByteArray := prog_10_method_24_code
def yX8_sort : MethodName := ⟨RX8, "sort", "()V"⟩
abbrev cX8_sign : ByteArray := prog_10_method_25_code
def yX8_sign : MethodName := ⟨RX8, "sign", "()V"⟩
abbrev cX8_make : ByteArray := prog_10_method_26_code
def yX8_make : MethodName := ⟨RX8, "make", "(II)V"⟩
abbrev cX8_build : ByteArray := prog_10_method_27_code
def yX8_build : MethodName := ⟨RX8, "build", "(II)V"⟩
abbrev cX8_both : ByteArray := prog_10_method_28_code
def yX8_both : MethodName := ⟨RX8, "both", "(III)V"⟩
abbrev cX8_areAlike : ByteArray := prog_10_method_29_code
def yX8_areAlike : MethodName := ⟨RX8, "areAlike", "(I)Z"⟩
abbrev cX8_made : ByteArray := prog_10_method_30_code
def yX8_made : MethodName := ⟨RX8, "made", "(II)I"⟩
abbrev cX8_at : ByteArray := prog_10_method_31_code
def yX8_at : MethodName := ⟨RX8, "at", "(III)I"⟩
abbrev cX8_usedBy : ByteArray := prog_10_method_32_code
def yX8_usedBy : MethodName := ⟨RX8, "usedBy", "(I)I"⟩
abbrev cX8_readBy : ByteArray := prog_10_method_33_code
def yX8_readBy : MethodName := ⟨RX8, "readBy", "(I)I"⟩
abbrev cX8_wordsOf : ByteArray := prog_10_method_34_code
def yX8_wordsOf : MethodName := ⟨RX8, "wordsOf", "(IIZ)I"⟩
abbrev cX8_reads : ByteArray := prog_10_method_35_code
def yX8_reads : MethodName := ⟨RX8, "reads", "(III)I"⟩
abbrev cX8_uses : ByteArray := prog_10_method_36_code
def yX8_uses : MethodName := ⟨RX8, "uses", "(II)I"⟩
abbrev cX8_bits : ByteArray := prog_10_method_37_code
def yX8_bits : MethodName := ⟨RX8, "bits", "(I)I"⟩
abbrev cX8_orders : ByteArray := prog_10_method_38_code
def yX8_orders : MethodName := ⟨RX8, "orders", "(I)J"⟩
abbrev cX8_built : ByteArray := prog_10_method_39_code
def yX8_built : MethodName := ⟨RX8, "built", "(I)I"⟩
abbrev cX8_alike : ByteArray := prog_10_method_40_code
def yX8_alike : MethodName := ⟨RX8, "alike", "(III)I"⟩
abbrev cX8_first : ByteArray := prog_10_method_41_code
def yX8_first : MethodName := ⟨RX8, "first", "(II)I"⟩
abbrev cX8_second : ByteArray := prog_10_method_42_code
def yX8_second : MethodName := ⟨RX8, "second", "(II)I"⟩
abbrev cX8_findFar : ByteArray := prog_10_method_43_code
def yX8_findFar : MethodName := ⟨RX8, "findFar", "(III)V"⟩
abbrev cX8_note : ByteArray := prog_10_method_44_code
def yX8_note : MethodName := ⟨RX8, "note", "(III)V"⟩
abbrev cX8_changes : ByteArray := prog_10_method_45_code
def yX8_changes : MethodName := ⟨RX8, "changes", "(III)I"⟩
abbrev cX8_change : ByteArray := prog_10_method_46_code
def yX8_change : MethodName := ⟨RX8, "change", "(II)I"⟩
abbrev cX8_cause : ByteArray := prog_10_method_47_code
def yX8_cause : MethodName := ⟨RX8, "cause", "(III)I"⟩
abbrev cX8_fix : ByteArray := prog_10_method_48_code
def yX8_fix : MethodName := ⟨RX8, "fix", "(III)I"⟩
abbrev cX8_breaking : ByteArray := prog_10_method_49_code
def yX8_breaking : MethodName := ⟨RX8, "breaking", "(IIII)I"⟩
abbrev cX8_stable : ByteArray := prog_10_method_50_code
def yX8_stable : MethodName := ⟨RX8, "stable", "(IIII)I"⟩
abbrev cX8_breaks : ByteArray := prog_10_method_51_code
def yX8_breaks : MethodName := ⟨RX8, "breaks", "(III)I"⟩
abbrev cX8_areEnough : ByteArray := prog_10_method_52_code
def yX8_areEnough : MethodName := ⟨RX8, "areEnough", "(II)Z"⟩
abbrev cX8_rooms : ByteArray := prog_10_method_53_code
def yX8_rooms : MethodName := ⟨RX8, "rooms", "(II)I"⟩
abbrev cX8_isMaker : ByteArray := prog_10_method_54_code
def yX8_isMaker : MethodName := ⟨RX8, "isMaker", "(I)Z"⟩
abbrev cX8_maker : ByteArray := prog_10_method_55_code
def yX8_maker : MethodName := ⟨RX8, "maker", "(III)I"⟩
abbrev cX8_downFrom : ByteArray := prog_10_method_56_code
def yX8_downFrom : MethodName := ⟨RX8, "downFrom", "(I)I"⟩
abbrev cX8_down : ByteArray := prog_10_method_57_code
def yX8_down : MethodName := ⟨RX8, "down", "(I)I"⟩
abbrev cX8_walk : ByteArray := prog_10_method_58_code
def yX8_walk : MethodName := ⟨RX8, "walk", "(I)I"⟩
abbrev cX8_ring : ByteArray := prog_10_method_59_code
def yX8_ring : MethodName := ⟨RX8, "ring", "(II)I"⟩
abbrev cX8_needs : ByteArray := prog_10_method_60_code
def yX8_needs : MethodName := ⟨RX8, "needs", "(II)I"⟩
abbrev cX8_forge : ByteArray := prog_10_method_61_code
def yX8_forge : MethodName := ⟨RX8, "forge", "(II)I"⟩
abbrev cX8_trust : ByteArray := prog_10_method_62_code
def yX8_trust : MethodName := ⟨RX8, "trust", "(I)I"⟩
abbrev cX8_heirs : ByteArray := prog_10_method_63_code
def yX8_heirs : MethodName := ⟨RX8, "heirs", "(I)I"⟩
abbrev cX8_count : ByteArray := prog_10_method_64_code
def yX8_count : MethodName := ⟨RX8, "count", "(I)I"⟩
def RJ6 : String := "java/lang/Integer"
abbrev cJ6_numberOfTrailingZeros_0f7a4 : ByteArray := prog_11_method_48_code
def yJ6_numberOfTrailingZeros_0f7a4 : MethodName := ⟨RJ6, "numberOfTrailingZeros", "(I)I"⟩
abbrev cJ6_bitCount_0f7a4 : ByteArray := prog_11_method_49_code
def yJ6_bitCount_0f7a4 : MethodName := ⟨RJ6, "bitCount", "(I)I"⟩
def RJ9 : String := "java/lang/Math"
abbrev cJ9_max_7cf53 : ByteArray := prog_12_method_65_code
def yJ9_max_7cf53 : MethodName := ⟨RJ9, "max", "(II)I"⟩
abbrev cJ9_min_7cf53 : ByteArray := prog_12_method_69_code
def yJ9_min_7cf53 : MethodName := ⟨RJ9, "min", "(II)I"⟩
def RJ10 : String := "java/lang/System"
def RJ7 : String := "java/util/Arrays"
abbrev cJ7_fill_d0a16 : ByteArray := prog_14_method_101_code
def yJ7_fill_d0a16 : MethodName := ⟨RJ7, "fill", "([JJ)V"⟩
abbrev cJ7_fill_53178 : ByteArray := prog_14_method_103_code
def yJ7_fill_53178 : MethodName := ⟨RJ7, "fill", "([II)V"⟩
def RL : String := "BuiltTwiceLaw"
abbrev cL_law : ByteArray := code
def yL_law : MethodName := ⟨RL, "law", "([I)Z"⟩
theorem dX0_init_0 : decode cX0_init 0 = .ok (.aload_n 0, 1) := by decide +kernel
theorem dX0_init_1 : decode cX0_init 1 = .ok (.invokespecial 3, 3) := by decide +kernel
theorem dX0_init_4 : decode cX0_init 4 = .ok (.aload_n 0, 1) := by decide +kernel
theorem dX0_init_5 : decode cX0_init 5 = .ok (.sipush 200, 3) := by decide +kernel
theorem dX0_init_8 : decode cX0_init 8 = .ok (.newarray .int, 2) := by decide +kernel
theorem dX0_init_10 : decode cX0_init 10 = .ok (.putfield 9, 3) := by decide +kernel
theorem dX0_init_13 : decode cX0_init 13 = .ok (.aload_n 0, 1) := by decide +kernel
theorem dX0_init_14 : decode cX0_init 14 = .ok (.sipush 200, 3) := by decide +kernel
theorem dX0_init_17 : decode cX0_init 17 = .ok (.newarray .int, 2) := by decide +kernel
theorem dX0_init_19 : decode cX0_init 19 = .ok (.putfield 15, 3) := by decide +kernel
theorem dX0_init_22 : decode cX0_init 22 = .ok (.aload_n 0, 1) := by decide +kernel
theorem dX0_init_23 : decode cX0_init 23 = .ok (.sipush 200, 3) := by decide +kernel
theorem dX0_init_26 : decode cX0_init 26 = .ok (.newarray .int, 2) := by decide +kernel
theorem dX0_init_28 : decode cX0_init 28 = .ok (.putfield 18, 3) := by decide +kernel
theorem dX0_init_31 : decode cX0_init 31 = .ok (.aload_n 0, 1) := by decide +kernel
theorem dX0_init_32 : decode cX0_init 32 = .ok (.sipush 2500, 3) := by decide +kernel
theorem dX0_init_35 : decode cX0_init 35 = .ok (.newarray .int, 2) := by decide +kernel
theorem dX0_init_37 : decode cX0_init 37 = .ok (.putfield 21, 3) := by decide +kernel
theorem dX0_init_40 : decode cX0_init 40 = .ok (.aload_n 0, 1) := by decide +kernel
theorem dX0_init_41 : decode cX0_init 41 = .ok (.sipush 201, 3) := by decide +kernel
theorem dX0_init_44 : decode cX0_init 44 = .ok (.newarray .int, 2) := by decide +kernel
theorem dX0_init_46 : decode cX0_init 46 = .ok (.putfield 24, 3) := by decide +kernel
theorem dX0_init_49 : decode cX0_init 49 = .ok (.aload_n 0, 1) := by decide +kernel
theorem dX0_init_50 : decode cX0_init 50 = .ok (.sipush 201, 3) := by decide +kernel
theorem dX0_init_53 : decode cX0_init 53 = .ok (.newarray .int, 2) := by decide +kernel
theorem dX0_init_55 : decode cX0_init 55 = .ok (.putfield 27, 3) := by decide +kernel
theorem dX0_init_58 : decode cX0_init 58 = .ok (.return_, 1) := by decide +kernel
theorem dX0_lay_0 : decode cX0_lay 0 = .ok (.aload_n 1, 1) := by decide +kernel
theorem dX0_lay_1 : decode cX0_lay 1 = .ok (.aload_n 2, 1) := by decide +kernel
theorem dX0_lay_2 : decode cX0_lay 2 = .ok (.invokestatic 30, 3) := by decide +kernel
theorem dX0_lay_5 : decode cX0_lay 5 = .ok (.istore_n 3, 1) := by decide +kernel
theorem dX0_lay_6 : decode cX0_lay 6 = .ok (.aload_n 0, 1) := by decide +kernel
theorem dX0_lay_7 : decode cX0_lay 7 = .ok (.aload_n 1, 1) := by decide +kernel
theorem dX0_lay_8 : decode cX0_lay 8 = .ok (.aload_n 2, 1) := by decide +kernel
theorem dX0_lay_9 : decode cX0_lay 9 = .ok (.iload_n 3, 1) := by decide +kernel
theorem dX0_lay_10 : decode cX0_lay 10 = .ok (.invokevirtual 34, 3) := by decide +kernel
theorem dX0_lay_13 : decode cX0_lay 13 = .ok (.aload_n 0, 1) := by decide +kernel
theorem dX0_lay_14 : decode cX0_lay 14 = .ok (.aload_n 1, 1) := by decide +kernel
theorem dX0_lay_15 : decode cX0_lay 15 = .ok (.aload_n 2, 1) := by decide +kernel
theorem dX0_lay_16 : decode cX0_lay 16 = .ok (.iload_n 3, 1) := by decide +kernel
theorem dX0_lay_17 : decode cX0_lay 17 = .ok (.invokevirtual 38, 3) := by decide +kernel
theorem dX0_lay_20 : decode cX0_lay 20 = .ok (.return_, 1) := by decide +kernel
theorem dX0_likeAhead_0 : decode cX0_likeAhead 0 = .ok (.aload_n 0, 1) := by decide +kernel
theorem dX0_likeAhead_1 : decode cX0_likeAhead 1 = .ok (.getfield 41, 3) := by decide +kernel
theorem dX0_likeAhead_4 : decode cX0_likeAhead 4 = .ok (.aload_n 1, 1) := by decide +kernel
theorem dX0_likeAhead_5 : decode cX0_likeAhead 5 = .ok (.getfield 41, 3) := by decide +kernel
theorem dX0_likeAhead_8 : decode cX0_likeAhead 8 = .ok (.invokestatic 47, 3) := by decide +kernel
theorem dX0_likeAhead_11 : decode cX0_likeAhead 11 = .ok (.istore_n 2, 1) := by decide +kernel
theorem dX0_likeAhead_12 : decode cX0_likeAhead 12 = .ok (.iconst 0, 1) := by decide +kernel
theorem dX0_likeAhead_13 : decode cX0_likeAhead 13 = .ok (.istore_n 3, 1) := by decide +kernel
theorem dX0_likeAhead_14 : decode cX0_likeAhead 14 = .ok (.iload_n 3, 1) := by decide +kernel
theorem dX0_likeAhead_15 : decode cX0_likeAhead 15 = .ok (.iload_n 2, 1) := by decide +kernel
theorem dX0_likeAhead_16 : decode cX0_likeAhead 16 = .ok (.if_icmp .ge 26, 3) := by decide +kernel
theorem dX0_likeAhead_19 : decode cX0_likeAhead 19 = .ok (.aload_n 0, 1) := by decide +kernel
theorem dX0_likeAhead_20 : decode cX0_likeAhead 20 = .ok (.getfield 53, 3) := by decide +kernel
theorem dX0_likeAhead_23 : decode cX0_likeAhead 23 = .ok (.iload_n 3, 1) := by decide +kernel
theorem dX0_likeAhead_24 : decode cX0_likeAhead 24 = .ok (.iaload, 1) := by decide +kernel
theorem dX0_likeAhead_25 : decode cX0_likeAhead 25 = .ok (.aload_n 1, 1) := by decide +kernel
theorem dX0_likeAhead_26 : decode cX0_likeAhead 26 = .ok (.getfield 53, 3) := by decide +kernel
theorem dX0_likeAhead_29 : decode cX0_likeAhead 29 = .ok (.iload_n 3, 1) := by decide +kernel
theorem dX0_likeAhead_30 : decode cX0_likeAhead 30 = .ok (.iaload, 1) := by decide +kernel
theorem dX0_likeAhead_31 : decode cX0_likeAhead 31 = .ok (.if_icmp .eq 5, 3) := by decide +kernel
theorem dX0_likeAhead_34 : decode cX0_likeAhead 34 = .ok (.iload_n 3, 1) := by decide +kernel
theorem dX0_likeAhead_35 : decode cX0_likeAhead 35 = .ok (.ireturn, 1) := by decide +kernel
theorem dX0_likeAhead_36 : decode cX0_likeAhead 36 = .ok (.iinc 3 1, 3) := by decide +kernel
theorem dX0_likeAhead_39 : decode cX0_likeAhead 39 = .ok (.goto (-25), 3) := by decide +kernel
theorem dX0_likeAhead_42 : decode cX0_likeAhead 42 = .ok (.iload_n 2, 1) := by decide +kernel
theorem dX0_likeAhead_43 : decode cX0_likeAhead 43 = .ok (.ireturn, 1) := by decide +kernel
theorem dX0_chooseMoves_0 : decode cX0_chooseMoves 0 = .ok (.iload_n 3, 1) := by decide +kernel
theorem dX0_chooseMoves_1 : decode cX0_chooseMoves 1 = .ok (.istore 4, 2) := by decide +kernel
theorem dX0_chooseMoves_3 : decode cX0_chooseMoves 3 = .ok (.iload 4, 2) := by decide +kernel
theorem dX0_chooseMoves_5 : decode cX0_chooseMoves 5 = .ok (.aload_n 2, 1) := by decide +kernel
theorem dX0_chooseMoves_6 : decode cX0_chooseMoves 6 = .ok (.getfield 41, 3) := by decide +kernel
theorem dX0_chooseMoves_9 : decode cX0_chooseMoves 9 = .ok (.if_icmp .gt 23, 3) := by decide +kernel
theorem dX0_chooseMoves_12 : decode cX0_chooseMoves 12 = .ok (.aload_n 0, 1) := by decide +kernel
theorem dX0_chooseMoves_13 : decode cX0_chooseMoves 13 = .ok (.getfield 24, 3) := by decide +kernel
theorem dX0_chooseMoves_16 : decode cX0_chooseMoves 16 = .ok (.iload 4, 2) := by decide +kernel
theorem dX0_chooseMoves_18 : decode cX0_chooseMoves 18 = .ok (.aload_n 2, 1) := by decide +kernel
theorem dX0_chooseMoves_19 : decode cX0_chooseMoves 19 = .ok (.getfield 41, 3) := by decide +kernel
theorem dX0_chooseMoves_22 : decode cX0_chooseMoves 22 = .ok (.iload 4, 2) := by decide +kernel
theorem dX0_chooseMoves_24 : decode cX0_chooseMoves 24 = .ok (.isub, 1) := by decide +kernel
theorem dX0_chooseMoves_25 : decode cX0_chooseMoves 25 = .ok (.iastore, 1) := by decide +kernel
theorem dX0_chooseMoves_26 : decode cX0_chooseMoves 26 = .ok (.iinc 4 1, 3) := by decide +kernel
theorem dX0_chooseMoves_29 : decode cX0_chooseMoves 29 = .ok (.goto (-26), 3) := by decide +kernel
theorem dX0_chooseMoves_32 : decode cX0_chooseMoves 32 = .ok (.aload_n 1, 1) := by decide +kernel
theorem dX0_chooseMoves_33 : decode cX0_chooseMoves 33 = .ok (.getfield 41, 3) := by decide +kernel
theorem dX0_chooseMoves_36 : decode cX0_chooseMoves 36 = .ok (.iconst 1, 1) := by decide +kernel
theorem dX0_chooseMoves_37 : decode cX0_chooseMoves 37 = .ok (.isub, 1) := by decide +kernel
theorem dX0_chooseMoves_38 : decode cX0_chooseMoves 38 = .ok (.istore 4, 2) := by decide +kernel
theorem dX0_chooseMoves_40 : decode cX0_chooseMoves 40 = .ok (.iload 4, 2) := by decide +kernel
theorem dX0_chooseMoves_42 : decode cX0_chooseMoves 42 = .ok (.iload_n 3, 1) := by decide +kernel
theorem dX0_chooseMoves_43 : decode cX0_chooseMoves 43 = .ok (.if_icmp .lt 95, 3) := by decide +kernel
theorem dX0_chooseMoves_46 : decode cX0_chooseMoves 46 = .ok (.aload_n 0, 1) := by decide +kernel
theorem dX0_chooseMoves_47 : decode cX0_chooseMoves 47 = .ok (.getfield 24, 3) := by decide +kernel
theorem dX0_chooseMoves_50 : decode cX0_chooseMoves 50 = .ok (.astore 5, 2) := by decide +kernel
theorem dX0_chooseMoves_52 : decode cX0_chooseMoves 52 = .ok (.aload_n 0, 1) := by decide +kernel
theorem dX0_chooseMoves_53 : decode cX0_chooseMoves 53 = .ok (.aload_n 0, 1) := by decide +kernel
theorem dX0_chooseMoves_54 : decode cX0_chooseMoves 54 = .ok (.getfield 27, 3) := by decide +kernel
theorem dX0_chooseMoves_57 : decode cX0_chooseMoves 57 = .ok (.putfield 24, 3) := by decide +kernel
theorem dX0_chooseMoves_60 : decode cX0_chooseMoves 60 = .ok (.aload_n 0, 1) := by decide +kernel
theorem dX0_chooseMoves_61 : decode cX0_chooseMoves 61 = .ok (.aload 5, 2) := by decide +kernel
theorem dX0_chooseMoves_63 : decode cX0_chooseMoves 63 = .ok (.putfield 27, 3) := by decide +kernel
theorem dX0_chooseMoves_66 : decode cX0_chooseMoves 66 = .ok (.aload_n 0, 1) := by decide +kernel
theorem dX0_chooseMoves_67 : decode cX0_chooseMoves 67 = .ok (.getfield 24, 3) := by decide +kernel
theorem dX0_chooseMoves_70 : decode cX0_chooseMoves 70 = .ok (.aload_n 2, 1) := by decide +kernel
theorem dX0_chooseMoves_71 : decode cX0_chooseMoves 71 = .ok (.getfield 41, 3) := by decide +kernel
theorem dX0_chooseMoves_74 : decode cX0_chooseMoves 74 = .ok (.aload_n 1, 1) := by decide +kernel
theorem dX0_chooseMoves_75 : decode cX0_chooseMoves 75 = .ok (.getfield 41, 3) := by decide +kernel
theorem dX0_chooseMoves_78 : decode cX0_chooseMoves 78 = .ok (.iload 4, 2) := by decide +kernel
theorem dX0_chooseMoves_80 : decode cX0_chooseMoves 80 = .ok (.isub, 1) := by decide +kernel
theorem dX0_chooseMoves_81 : decode cX0_chooseMoves 81 = .ok (.iastore, 1) := by decide +kernel
theorem dX0_chooseMoves_82 : decode cX0_chooseMoves 82 = .ok (.aload_n 2, 1) := by decide +kernel
theorem dX0_chooseMoves_83 : decode cX0_chooseMoves 83 = .ok (.getfield 41, 3) := by decide +kernel
theorem dX0_chooseMoves_86 : decode cX0_chooseMoves 86 = .ok (.iconst 1, 1) := by decide +kernel
theorem dX0_chooseMoves_87 : decode cX0_chooseMoves 87 = .ok (.isub, 1) := by decide +kernel
theorem dX0_chooseMoves_88 : decode cX0_chooseMoves 88 = .ok (.istore 6, 2) := by decide +kernel
theorem dX0_chooseMoves_90 : decode cX0_chooseMoves 90 = .ok (.iload 6, 2) := by decide +kernel
theorem dX0_chooseMoves_92 : decode cX0_chooseMoves 92 = .ok (.iload_n 3, 1) := by decide +kernel
theorem dX0_chooseMoves_93 : decode cX0_chooseMoves 93 = .ok (.if_icmp .lt 39, 3) := by decide +kernel
theorem dX0_chooseMoves_96 : decode cX0_chooseMoves 96 = .ok (.aload_n 0, 1) := by decide +kernel
theorem dX0_chooseMoves_97 : decode cX0_chooseMoves 97 = .ok (.iload 4, 2) := by decide +kernel
theorem dX0_chooseMoves_99 : decode cX0_chooseMoves 99 = .ok (.iload 6, 2) := by decide +kernel
theorem dX0_chooseMoves_101 : decode cX0_chooseMoves 101 = .ok (.aload_n 1, 1) := by decide +kernel
theorem dX0_chooseMoves_102 : decode cX0_chooseMoves 102 = .ok (.getfield 53, 3) := by decide +kernel
theorem dX0_chooseMoves_105 : decode cX0_chooseMoves 105 = .ok (.iload 4, 2) := by decide +kernel
theorem dX0_chooseMoves_107 : decode cX0_chooseMoves 107 = .ok (.iaload, 1) := by decide +kernel
theorem dX0_chooseMoves_108 : decode cX0_chooseMoves 108 = .ok (.aload_n 2, 1) := by decide +kernel
theorem dX0_chooseMoves_109 : decode cX0_chooseMoves 109 = .ok (.getfield 53, 3) := by decide +kernel
theorem dX0_chooseMoves_112 : decode cX0_chooseMoves 112 = .ok (.iload 6, 2) := by decide +kernel
theorem dX0_chooseMoves_114 : decode cX0_chooseMoves 114 = .ok (.iaload, 1) := by decide +kernel
theorem dX0_chooseMoves_115 : decode cX0_chooseMoves 115 = .ok (.if_icmp .ne 7, 3) := by decide +kernel
theorem dX0_chooseMoves_118 : decode cX0_chooseMoves 118 = .ok (.iconst 1, 1) := by decide +kernel
theorem dX0_chooseMoves_119 : decode cX0_chooseMoves 119 = .ok (.goto 4, 3) := by decide +kernel
theorem dX0_chooseMoves_122 : decode cX0_chooseMoves 122 = .ok (.iconst 0, 1) := by decide +kernel
theorem dX0_chooseMoves_123 : decode cX0_chooseMoves 123 = .ok (.invokevirtual 56, 3) := by decide +kernel
theorem dX0_chooseMoves_126 : decode cX0_chooseMoves 126 = .ok (.iinc 6 (-1), 3) := by decide +kernel
theorem dX0_chooseMoves_129 : decode cX0_chooseMoves 129 = .ok (.goto (-39), 3) := by decide +kernel
theorem dX0_chooseMoves_132 : decode cX0_chooseMoves 132 = .ok (.iinc 4 (-1), 3) := by decide +kernel
theorem dX0_chooseMoves_135 : decode cX0_chooseMoves 135 = .ok (.goto (-95), 3) := by decide +kernel
theorem dX0_chooseMoves_138 : decode cX0_chooseMoves 138 = .ok (.return_, 1) := by decide +kernel
theorem dX0_chooseMove_0 : decode cX0_chooseMove 0 = .ok (.aload_n 0, 1) := by decide +kernel
theorem dX0_chooseMove_1 : decode cX0_chooseMove 1 = .ok (.getfield 27, 3) := by decide +kernel
theorem dX0_chooseMove_4 : decode cX0_chooseMove 4 = .ok (.iload_n 2, 1) := by decide +kernel
theorem dX0_chooseMove_5 : decode cX0_chooseMove 5 = .ok (.iconst 1, 1) := by decide +kernel
theorem dX0_chooseMove_6 : decode cX0_chooseMove 6 = .ok (.iadd, 1) := by decide +kernel
theorem dX0_chooseMove_7 : decode cX0_chooseMove 7 = .ok (.iaload, 1) := by decide +kernel
theorem dX0_chooseMove_8 : decode cX0_chooseMove 8 = .ok (.istore 4, 2) := by decide +kernel
theorem dX0_chooseMove_10 : decode cX0_chooseMove 10 = .ok (.aload_n 0, 1) := by decide +kernel
theorem dX0_chooseMove_11 : decode cX0_chooseMove 11 = .ok (.getfield 27, 3) := by decide +kernel
theorem dX0_chooseMove_14 : decode cX0_chooseMove 14 = .ok (.iload_n 2, 1) := by decide +kernel
theorem dX0_chooseMove_15 : decode cX0_chooseMove 15 = .ok (.iaload, 1) := by decide +kernel
theorem dX0_chooseMove_16 : decode cX0_chooseMove 16 = .ok (.istore 5, 2) := by decide +kernel
theorem dX0_chooseMove_18 : decode cX0_chooseMove 18 = .ok (.aload_n 0, 1) := by decide +kernel
theorem dX0_chooseMove_19 : decode cX0_chooseMove 19 = .ok (.getfield 24, 3) := by decide +kernel
theorem dX0_chooseMove_22 : decode cX0_chooseMove 22 = .ok (.iload_n 2, 1) := by decide +kernel
theorem dX0_chooseMove_23 : decode cX0_chooseMove 23 = .ok (.iconst 1, 1) := by decide +kernel
theorem dX0_chooseMove_24 : decode cX0_chooseMove 24 = .ok (.iadd, 1) := by decide +kernel
theorem dX0_chooseMove_25 : decode cX0_chooseMove 25 = .ok (.iaload, 1) := by decide +kernel
theorem dX0_chooseMove_26 : decode cX0_chooseMove 26 = .ok (.istore 6, 2) := by decide +kernel
theorem dX0_chooseMove_28 : decode cX0_chooseMove 28 = .ok (.iconst 3, 1) := by decide +kernel
theorem dX0_chooseMove_29 : decode cX0_chooseMove 29 = .ok (.istore 7, 2) := by decide +kernel
theorem dX0_chooseMove_31 : decode cX0_chooseMove 31 = .ok (.iload_n 3, 1) := by decide +kernel
theorem dX0_chooseMove_32 : decode cX0_chooseMove 32 = .ok (.ifCond .eq 14, 3) := by decide +kernel
theorem dX0_chooseMove_35 : decode cX0_chooseMove 35 = .ok (.aload_n 0, 1) := by decide +kernel
theorem dX0_chooseMove_36 : decode cX0_chooseMove 36 = .ok (.getfield 24, 3) := by decide +kernel
theorem dX0_chooseMove_39 : decode cX0_chooseMove 39 = .ok (.iload_n 2, 1) := by decide +kernel
theorem dX0_chooseMove_40 : decode cX0_chooseMove 40 = .ok (.iload 4, 2) := by decide +kernel
theorem dX0_chooseMove_42 : decode cX0_chooseMove 42 = .ok (.iastore, 1) := by decide +kernel
theorem dX0_chooseMove_43 : decode cX0_chooseMove 43 = .ok (.goto 52, 3) := by decide +kernel
theorem dX0_chooseMove_46 : decode cX0_chooseMove 46 = .ok (.iload 4, 2) := by decide +kernel
theorem dX0_chooseMove_48 : decode cX0_chooseMove 48 = .ok (.iload 5, 2) := by decide +kernel
theorem dX0_chooseMove_50 : decode cX0_chooseMove 50 = .ok (.iload 6, 2) := by decide +kernel
theorem dX0_chooseMove_52 : decode cX0_chooseMove 52 = .ok (.invokestatic 47, 3) := by decide +kernel
theorem dX0_chooseMove_55 : decode cX0_chooseMove 55 = .ok (.invokestatic 47, 3) := by decide +kernel
theorem dX0_chooseMove_58 : decode cX0_chooseMove 58 = .ok (.istore 8, 2) := by decide +kernel
theorem dX0_chooseMove_60 : decode cX0_chooseMove 60 = .ok (.aload_n 0, 1) := by decide +kernel
theorem dX0_chooseMove_61 : decode cX0_chooseMove 61 = .ok (.getfield 24, 3) := by decide +kernel
theorem dX0_chooseMove_64 : decode cX0_chooseMove 64 = .ok (.iload_n 2, 1) := by decide +kernel
theorem dX0_chooseMove_65 : decode cX0_chooseMove 65 = .ok (.iload 8, 2) := by decide +kernel
theorem dX0_chooseMove_67 : decode cX0_chooseMove 67 = .ok (.iconst 1, 1) := by decide +kernel
theorem dX0_chooseMove_68 : decode cX0_chooseMove 68 = .ok (.iadd, 1) := by decide +kernel
theorem dX0_chooseMove_69 : decode cX0_chooseMove 69 = .ok (.iastore, 1) := by decide +kernel
theorem dX0_chooseMove_70 : decode cX0_chooseMove 70 = .ok (.iload 4, 2) := by decide +kernel
theorem dX0_chooseMove_72 : decode cX0_chooseMove 72 = .ok (.iload 8, 2) := by decide +kernel
theorem dX0_chooseMove_74 : decode cX0_chooseMove 74 = .ok (.if_icmp .ne 7, 3) := by decide +kernel
theorem dX0_chooseMove_77 : decode cX0_chooseMove 77 = .ok (.iconst 0, 1) := by decide +kernel
theorem dX0_chooseMove_78 : decode cX0_chooseMove 78 = .ok (.goto 15, 3) := by decide +kernel
theorem dX0_chooseMove_81 : decode cX0_chooseMove 81 = .ok (.iload 5, 2) := by decide +kernel
theorem dX0_chooseMove_83 : decode cX0_chooseMove 83 = .ok (.iload 8, 2) := by decide +kernel
theorem dX0_chooseMove_85 : decode cX0_chooseMove 85 = .ok (.if_icmp .ne 7, 3) := by decide +kernel
theorem dX0_chooseMove_88 : decode cX0_chooseMove 88 = .ok (.iconst 1, 1) := by decide +kernel
theorem dX0_chooseMove_89 : decode cX0_chooseMove 89 = .ok (.goto 4, 3) := by decide +kernel
theorem dX0_chooseMove_92 : decode cX0_chooseMove 92 = .ok (.iconst 2, 1) := by decide +kernel
theorem dX0_chooseMove_93 : decode cX0_chooseMove 93 = .ok (.istore 7, 2) := by decide +kernel
theorem dX0_chooseMove_95 : decode cX0_chooseMove 95 = .ok (.iload_n 1, 1) := by decide +kernel
theorem dX0_chooseMove_96 : decode cX0_chooseMove 96 = .ok (.sipush 200, 3) := by decide +kernel
theorem dX0_chooseMove_99 : decode cX0_chooseMove 99 = .ok (.imul, 1) := by decide +kernel
theorem dX0_chooseMove_100 : decode cX0_chooseMove 100 = .ok (.iload_n 2, 1) := by decide +kernel
theorem dX0_chooseMove_101 : decode cX0_chooseMove 101 = .ok (.iadd, 1) := by decide +kernel
theorem dX0_chooseMove_102 : decode cX0_chooseMove 102 = .ok (.istore 8, 2) := by decide +kernel
theorem dX0_chooseMove_104 : decode cX0_chooseMove 104 = .ok (.iload 8, 2) := by decide +kernel
theorem dX0_chooseMove_106 : decode cX0_chooseMove 106 = .ok (.bipush 15, 2) := by decide +kernel
theorem dX0_chooseMove_108 : decode cX0_chooseMove 108 = .ok (.iand, 1) := by decide +kernel
theorem dX0_chooseMove_109 : decode cX0_chooseMove 109 = .ok (.iconst 2, 1) := by decide +kernel
theorem dX0_chooseMove_110 : decode cX0_chooseMove 110 = .ok (.imul, 1) := by decide +kernel
theorem dX0_chooseMove_111 : decode cX0_chooseMove 111 = .ok (.istore 9, 2) := by decide +kernel
theorem dX0_chooseMove_113 : decode cX0_chooseMove 113 = .ok (.aload_n 0, 1) := by decide +kernel
theorem dX0_chooseMove_114 : decode cX0_chooseMove 114 = .ok (.getfield 21, 3) := by decide +kernel
theorem dX0_chooseMove_117 : decode cX0_chooseMove 117 = .ok (.iload 8, 2) := by decide +kernel
theorem dX0_chooseMove_119 : decode cX0_chooseMove 119 = .ok (.iconst 4, 1) := by decide +kernel
theorem dX0_chooseMove_120 : decode cX0_chooseMove 120 = .ok (.ishr, 1) := by decide +kernel
theorem dX0_chooseMove_121 : decode cX0_chooseMove 121 = .ok (.aload_n 0, 1) := by decide +kernel
theorem dX0_chooseMove_122 : decode cX0_chooseMove 122 = .ok (.getfield 21, 3) := by decide +kernel
theorem dX0_chooseMove_125 : decode cX0_chooseMove 125 = .ok (.iload 8, 2) := by decide +kernel
theorem dX0_chooseMove_127 : decode cX0_chooseMove 127 = .ok (.iconst 4, 1) := by decide +kernel
theorem dX0_chooseMove_128 : decode cX0_chooseMove 128 = .ok (.ishr, 1) := by decide +kernel
theorem dX0_chooseMove_129 : decode cX0_chooseMove 129 = .ok (.iaload, 1) := by decide +kernel
theorem dX0_chooseMove_130 : decode cX0_chooseMove 130 = .ok (.iconst 3, 1) := by decide +kernel
theorem dX0_chooseMove_131 : decode cX0_chooseMove 131 = .ok (.iload 9, 2) := by decide +kernel
theorem dX0_chooseMove_133 : decode cX0_chooseMove 133 = .ok (.ishl, 1) := by decide +kernel
theorem dX0_chooseMove_134 : decode cX0_chooseMove 134 = .ok (.iconst (-1), 1) := by decide +kernel
theorem dX0_chooseMove_135 : decode cX0_chooseMove 135 = .ok (.ixor, 1) := by decide +kernel
theorem dX0_chooseMove_136 : decode cX0_chooseMove 136 = .ok (.iand, 1) := by decide +kernel
theorem dX0_chooseMove_137 : decode cX0_chooseMove 137 = .ok (.iload 7, 2) := by decide +kernel
theorem dX0_chooseMove_139 : decode cX0_chooseMove 139 = .ok (.iload 9, 2) := by decide +kernel
theorem dX0_chooseMove_141 : decode cX0_chooseMove 141 = .ok (.ishl, 1) := by decide +kernel
theorem dX0_chooseMove_142 : decode cX0_chooseMove 142 = .ok (.ior, 1) := by decide +kernel
theorem dX0_chooseMove_143 : decode cX0_chooseMove 143 = .ok (.iastore, 1) := by decide +kernel
theorem dX0_chooseMove_144 : decode cX0_chooseMove 144 = .ok (.return_, 1) := by decide +kernel
theorem dX0_moveAt_0 : decode cX0_moveAt 0 = .ok (.iload_n 3, 1) := by decide +kernel
theorem dX0_moveAt_1 : decode cX0_moveAt 1 = .ok (.aload_n 1, 1) := by decide +kernel
theorem dX0_moveAt_2 : decode cX0_moveAt 2 = .ok (.getfield 41, 3) := by decide +kernel
theorem dX0_moveAt_5 : decode cX0_moveAt 5 = .ok (.if_icmp .lt 5, 3) := by decide +kernel
theorem dX0_moveAt_8 : decode cX0_moveAt 8 = .ok (.iconst 2, 1) := by decide +kernel
theorem dX0_moveAt_9 : decode cX0_moveAt 9 = .ok (.ireturn, 1) := by decide +kernel
theorem dX0_moveAt_10 : decode cX0_moveAt 10 = .ok (.iload 4, 2) := by decide +kernel
theorem dX0_moveAt_12 : decode cX0_moveAt 12 = .ok (.aload_n 2, 1) := by decide +kernel
theorem dX0_moveAt_13 : decode cX0_moveAt 13 = .ok (.getfield 41, 3) := by decide +kernel
theorem dX0_moveAt_16 : decode cX0_moveAt 16 = .ok (.if_icmp .lt 5, 3) := by decide +kernel
theorem dX0_moveAt_19 : decode cX0_moveAt 19 = .ok (.iconst 1, 1) := by decide +kernel
theorem dX0_moveAt_20 : decode cX0_moveAt 20 = .ok (.ireturn, 1) := by decide +kernel
theorem dX0_moveAt_21 : decode cX0_moveAt 21 = .ok (.iload_n 3, 1) := by decide +kernel
theorem dX0_moveAt_22 : decode cX0_moveAt 22 = .ok (.sipush 200, 3) := by decide +kernel
theorem dX0_moveAt_25 : decode cX0_moveAt 25 = .ok (.imul, 1) := by decide +kernel
theorem dX0_moveAt_26 : decode cX0_moveAt 26 = .ok (.iload 4, 2) := by decide +kernel
theorem dX0_moveAt_28 : decode cX0_moveAt 28 = .ok (.iadd, 1) := by decide +kernel
theorem dX0_moveAt_29 : decode cX0_moveAt 29 = .ok (.istore 5, 2) := by decide +kernel
theorem dX0_moveAt_31 : decode cX0_moveAt 31 = .ok (.aload_n 0, 1) := by decide +kernel
theorem dX0_moveAt_32 : decode cX0_moveAt 32 = .ok (.getfield 21, 3) := by decide +kernel
theorem dX0_moveAt_35 : decode cX0_moveAt 35 = .ok (.iload 5, 2) := by decide +kernel
theorem dX0_moveAt_37 : decode cX0_moveAt 37 = .ok (.iconst 4, 1) := by decide +kernel
theorem dX0_moveAt_38 : decode cX0_moveAt 38 = .ok (.ishr, 1) := by decide +kernel
theorem dX0_moveAt_39 : decode cX0_moveAt 39 = .ok (.iaload, 1) := by decide +kernel
theorem dX0_moveAt_40 : decode cX0_moveAt 40 = .ok (.iload 5, 2) := by decide +kernel
theorem dX0_moveAt_42 : decode cX0_moveAt 42 = .ok (.bipush 15, 2) := by decide +kernel
theorem dX0_moveAt_44 : decode cX0_moveAt 44 = .ok (.iand, 1) := by decide +kernel
theorem dX0_moveAt_45 : decode cX0_moveAt 45 = .ok (.iconst 2, 1) := by decide +kernel
theorem dX0_moveAt_46 : decode cX0_moveAt 46 = .ok (.imul, 1) := by decide +kernel
theorem dX0_moveAt_47 : decode cX0_moveAt 47 = .ok (.iushr, 1) := by decide +kernel
theorem dX0_moveAt_48 : decode cX0_moveAt 48 = .ok (.iconst 3, 1) := by decide +kernel
theorem dX0_moveAt_49 : decode cX0_moveAt 49 = .ok (.iand, 1) := by decide +kernel
theorem dX0_moveAt_50 : decode cX0_moveAt 50 = .ok (.ireturn, 1) := by decide +kernel
theorem dX0_follow_0 : decode cX0_follow 0 = .ok (.iload_n 3, 1) := by decide +kernel
theorem dX0_follow_1 : decode cX0_follow 1 = .ok (.istore 4, 2) := by decide +kernel
theorem dX0_follow_3 : decode cX0_follow 3 = .ok (.iload_n 3, 1) := by decide +kernel
theorem dX0_follow_4 : decode cX0_follow 4 = .ok (.istore 5, 2) := by decide +kernel
theorem dX0_follow_6 : decode cX0_follow 6 = .ok (.aload_n 0, 1) := by decide +kernel
theorem dX0_follow_7 : decode cX0_follow 7 = .ok (.iconst 0, 1) := by decide +kernel
theorem dX0_follow_8 : decode cX0_follow 8 = .ok (.putfield 60, 3) := by decide +kernel
theorem dX0_follow_11 : decode cX0_follow 11 = .ok (.iconst 0, 1) := by decide +kernel
theorem dX0_follow_12 : decode cX0_follow 12 = .ok (.istore 6, 2) := by decide +kernel
theorem dX0_follow_14 : decode cX0_follow 14 = .ok (.iload 6, 2) := by decide +kernel
theorem dX0_follow_16 : decode cX0_follow 16 = .ok (.sipush 400, 3) := by decide +kernel
theorem dX0_follow_19 : decode cX0_follow 19 = .ok (.if_icmp .ge 102, 3) := by decide +kernel
theorem dX0_follow_22 : decode cX0_follow 22 = .ok (.iload 4, 2) := by decide +kernel
theorem dX0_follow_24 : decode cX0_follow 24 = .ok (.aload_n 1, 1) := by decide +kernel
theorem dX0_follow_25 : decode cX0_follow 25 = .ok (.getfield 41, 3) := by decide +kernel
theorem dX0_follow_28 : decode cX0_follow 28 = .ok (.if_icmp .lt 12, 3) := by decide +kernel
theorem dX0_follow_31 : decode cX0_follow 31 = .ok (.iload 5, 2) := by decide +kernel
theorem dX0_follow_33 : decode cX0_follow 33 = .ok (.aload_n 2, 1) := by decide +kernel
theorem dX0_follow_34 : decode cX0_follow 34 = .ok (.getfield 41, 3) := by decide +kernel
theorem dX0_follow_37 : decode cX0_follow 37 = .ok (.if_icmp .ge 84, 3) := by decide +kernel
theorem dX0_follow_40 : decode cX0_follow 40 = .ok (.aload_n 0, 1) := by decide +kernel
theorem dX0_follow_41 : decode cX0_follow 41 = .ok (.aload_n 1, 1) := by decide +kernel
theorem dX0_follow_42 : decode cX0_follow 42 = .ok (.aload_n 2, 1) := by decide +kernel
theorem dX0_follow_43 : decode cX0_follow 43 = .ok (.iload 4, 2) := by decide +kernel
theorem dX0_follow_45 : decode cX0_follow 45 = .ok (.iload 5, 2) := by decide +kernel
theorem dX0_follow_47 : decode cX0_follow 47 = .ok (.invokevirtual 61, 3) := by decide +kernel
theorem dX0_follow_50 : decode cX0_follow 50 = .ok (.istore 7, 2) := by decide +kernel
theorem dX0_follow_52 : decode cX0_follow 52 = .ok (.iload 7, 2) := by decide +kernel
theorem dX0_follow_54 : decode cX0_follow 54 = .ok (.iconst 3, 1) := by decide +kernel
theorem dX0_follow_55 : decode cX0_follow 55 = .ok (.if_icmp .eq 28, 3) := by decide +kernel
theorem dX0_follow_58 : decode cX0_follow 58 = .ok (.aload_n 0, 1) := by decide +kernel
theorem dX0_follow_59 : decode cX0_follow 59 = .ok (.iload 7, 2) := by decide +kernel
theorem dX0_follow_61 : decode cX0_follow 61 = .ok (.iload 4, 2) := by decide +kernel
theorem dX0_follow_63 : decode cX0_follow 63 = .ok (.iload 7, 2) := by decide +kernel
theorem dX0_follow_65 : decode cX0_follow 65 = .ok (.iconst 1, 1) := by decide +kernel
theorem dX0_follow_66 : decode cX0_follow 66 = .ok (.if_icmp .ne 7, 3) := by decide +kernel
theorem dX0_follow_69 : decode cX0_follow 69 = .ok (.iconst 0, 1) := by decide +kernel
theorem dX0_follow_70 : decode cX0_follow 70 = .ok (.goto 10, 3) := by decide +kernel
theorem dX0_follow_73 : decode cX0_follow 73 = .ok (.aload_n 2, 1) := by decide +kernel
theorem dX0_follow_74 : decode cX0_follow 74 = .ok (.getfield 53, 3) := by decide +kernel
theorem dX0_follow_77 : decode cX0_follow 77 = .ok (.iload 5, 2) := by decide +kernel
theorem dX0_follow_79 : decode cX0_follow 79 = .ok (.iaload, 1) := by decide +kernel
theorem dX0_follow_80 : decode cX0_follow 80 = .ok (.invokevirtual 65, 3) := by decide +kernel
theorem dX0_follow_83 : decode cX0_follow 83 = .ok (.iload 4, 2) := by decide +kernel
theorem dX0_follow_85 : decode cX0_follow 85 = .ok (.iload 7, 2) := by decide +kernel
theorem dX0_follow_87 : decode cX0_follow 87 = .ok (.iconst 2, 1) := by decide +kernel
theorem dX0_follow_88 : decode cX0_follow 88 = .ok (.if_icmp .ne 7, 3) := by decide +kernel
theorem dX0_follow_91 : decode cX0_follow 91 = .ok (.iconst 0, 1) := by decide +kernel
theorem dX0_follow_92 : decode cX0_follow 92 = .ok (.goto 4, 3) := by decide +kernel
theorem dX0_follow_95 : decode cX0_follow 95 = .ok (.iconst 1, 1) := by decide +kernel
theorem dX0_follow_96 : decode cX0_follow 96 = .ok (.iadd, 1) := by decide +kernel
theorem dX0_follow_97 : decode cX0_follow 97 = .ok (.istore 4, 2) := by decide +kernel
theorem dX0_follow_99 : decode cX0_follow 99 = .ok (.iload 5, 2) := by decide +kernel
theorem dX0_follow_101 : decode cX0_follow 101 = .ok (.iload 7, 2) := by decide +kernel
theorem dX0_follow_103 : decode cX0_follow 103 = .ok (.iconst 1, 1) := by decide +kernel
theorem dX0_follow_104 : decode cX0_follow 104 = .ok (.if_icmp .ne 7, 3) := by decide +kernel
theorem dX0_follow_107 : decode cX0_follow 107 = .ok (.iconst 0, 1) := by decide +kernel
theorem dX0_follow_108 : decode cX0_follow 108 = .ok (.goto 4, 3) := by decide +kernel
theorem dX0_follow_111 : decode cX0_follow 111 = .ok (.iconst 1, 1) := by decide +kernel
theorem dX0_follow_112 : decode cX0_follow 112 = .ok (.iadd, 1) := by decide +kernel
theorem dX0_follow_113 : decode cX0_follow 113 = .ok (.istore 5, 2) := by decide +kernel
theorem dX0_follow_115 : decode cX0_follow 115 = .ok (.iinc 6 1, 3) := by decide +kernel
theorem dX0_follow_118 : decode cX0_follow 118 = .ok (.goto (-104), 3) := by decide +kernel
theorem dX0_follow_121 : decode cX0_follow 121 = .ok (.return_, 1) := by decide +kernel
theorem dX0_note_0 : decode cX0_note 0 = .ok (.aload_n 0, 1) := by decide +kernel
theorem dX0_note_1 : decode cX0_note 1 = .ok (.getfield 60, 3) := by decide +kernel
theorem dX0_note_4 : decode cX0_note 4 = .ok (.sipush 200, 3) := by decide +kernel
theorem dX0_note_7 : decode cX0_note 7 = .ok (.if_icmp .ge 43, 3) := by decide +kernel
theorem dX0_note_10 : decode cX0_note 10 = .ok (.aload_n 0, 1) := by decide +kernel
theorem dX0_note_11 : decode cX0_note 11 = .ok (.getfield 9, 3) := by decide +kernel
theorem dX0_note_14 : decode cX0_note 14 = .ok (.aload_n 0, 1) := by decide +kernel
theorem dX0_note_15 : decode cX0_note 15 = .ok (.getfield 60, 3) := by decide +kernel
theorem dX0_note_18 : decode cX0_note 18 = .ok (.iload_n 1, 1) := by decide +kernel
theorem dX0_note_19 : decode cX0_note 19 = .ok (.iastore, 1) := by decide +kernel
theorem dX0_note_20 : decode cX0_note 20 = .ok (.aload_n 0, 1) := by decide +kernel
theorem dX0_note_21 : decode cX0_note 21 = .ok (.getfield 15, 3) := by decide +kernel
theorem dX0_note_24 : decode cX0_note 24 = .ok (.aload_n 0, 1) := by decide +kernel
theorem dX0_note_25 : decode cX0_note 25 = .ok (.getfield 60, 3) := by decide +kernel
theorem dX0_note_28 : decode cX0_note 28 = .ok (.iload_n 2, 1) := by decide +kernel
theorem dX0_note_29 : decode cX0_note 29 = .ok (.iastore, 1) := by decide +kernel
theorem dX0_note_30 : decode cX0_note 30 = .ok (.aload_n 0, 1) := by decide +kernel
theorem dX0_note_31 : decode cX0_note 31 = .ok (.getfield 18, 3) := by decide +kernel
theorem dX0_note_34 : decode cX0_note 34 = .ok (.aload_n 0, 1) := by decide +kernel
theorem dX0_note_35 : decode cX0_note 35 = .ok (.getfield 60, 3) := by decide +kernel
theorem dX0_note_38 : decode cX0_note 38 = .ok (.iload_n 3, 1) := by decide +kernel
theorem dX0_note_39 : decode cX0_note 39 = .ok (.iastore, 1) := by decide +kernel
theorem dX0_note_40 : decode cX0_note 40 = .ok (.aload_n 0, 1) := by decide +kernel
theorem dX0_note_41 : decode cX0_note 41 = .ok (.dup, 1) := by decide +kernel
theorem dX0_note_42 : decode cX0_note 42 = .ok (.getfield 60, 3) := by decide +kernel
theorem dX0_note_45 : decode cX0_note 45 = .ok (.iconst 1, 1) := by decide +kernel
theorem dX0_note_46 : decode cX0_note 46 = .ok (.iadd, 1) := by decide +kernel
theorem dX0_note_47 : decode cX0_note 47 = .ok (.putfield 60, 3) := by decide +kernel
theorem dX0_note_50 : decode cX0_note 50 = .ok (.return_, 1) := by decide +kernel
theorem dX1_init_0 : decode cX1_init 0 = .ok (.aload_n 0, 1) := by decide +kernel
theorem dX1_init_1 : decode cX1_init 1 = .ok (.invokespecial 3, 3) := by decide +kernel
theorem dX1_init_4 : decode cX1_init 4 = .ok (.aload_n 0, 1) := by decide +kernel
theorem dX1_init_5 : decode cX1_init 5 = .ok (.bipush 8, 2) := by decide +kernel
theorem dX1_init_7 : decode cX1_init 7 = .ok (.newarray .int, 2) := by decide +kernel
theorem dX1_init_9 : decode cX1_init 9 = .ok (.putfield 9, 3) := by decide +kernel
theorem dX1_init_12 : decode cX1_init 12 = .ok (.aload_n 0, 1) := by decide +kernel
theorem dX1_init_13 : decode cX1_init 13 = .ok (.bipush 24, 2) := by decide +kernel
theorem dX1_init_15 : decode cX1_init 15 = .ok (.anewarray 15, 3) := by decide +kernel
theorem dX1_init_18 : decode cX1_init 18 = .ok (.putfield 17, 3) := by decide +kernel
theorem dX1_init_21 : decode cX1_init 21 = .ok (.aload_n 0, 1) := by decide +kernel
theorem dX1_init_22 : decode cX1_init 22 = .ok (.bipush 24, 2) := by decide +kernel
theorem dX1_init_24 : decode cX1_init 24 = .ok (.newarray .boolean, 2) := by decide +kernel
theorem dX1_init_26 : decode cX1_init 26 = .ok (.putfield 21, 3) := by decide +kernel
theorem dX1_init_29 : decode cX1_init 29 = .ok (.aload_n 0, 1) := by decide +kernel
theorem dX1_init_30 : decode cX1_init 30 = .ok (.sipush 256, 3) := by decide +kernel
theorem dX1_init_33 : decode cX1_init 33 = .ok (.newarray .int, 2) := by decide +kernel
theorem dX1_init_35 : decode cX1_init 35 = .ok (.putfield 25, 3) := by decide +kernel
theorem dX1_init_38 : decode cX1_init 38 = .ok (.aload_n 0, 1) := by decide +kernel
theorem dX1_init_39 : decode cX1_init 39 = .ok (.aload_n 1, 1) := by decide +kernel
theorem dX1_init_40 : decode cX1_init 40 = .ok (.putfield 28, 3) := by decide +kernel
theorem dX1_init_43 : decode cX1_init 43 = .ok (.aload_n 0, 1) := by decide +kernel
theorem dX1_init_44 : decode cX1_init 44 = .ok (.aload_n 2, 1) := by decide +kernel
theorem dX1_init_45 : decode cX1_init 45 = .ok (.putfield 32, 3) := by decide +kernel
theorem dX1_init_48 : decode cX1_init 48 = .ok (.iconst 0, 1) := by decide +kernel
theorem dX1_init_49 : decode cX1_init 49 = .ok (.istore_n 3, 1) := by decide +kernel
theorem dX1_init_50 : decode cX1_init 50 = .ok (.iload_n 3, 1) := by decide +kernel
theorem dX1_init_51 : decode cX1_init 51 = .ok (.bipush 24, 2) := by decide +kernel
theorem dX1_init_53 : decode cX1_init 53 = .ok (.if_icmp .ge 25, 3) := by decide +kernel
theorem dX1_init_56 : decode cX1_init 56 = .ok (.aload_n 0, 1) := by decide +kernel
theorem dX1_init_57 : decode cX1_init 57 = .ok (.getfield 17, 3) := by decide +kernel
theorem dX1_init_60 : decode cX1_init 60 = .ok (.iload_n 3, 1) := by decide +kernel
theorem dX1_init_61 : decode cX1_init 61 = .ok (.new 15, 3) := by decide +kernel
theorem dX1_init_64 : decode cX1_init 64 = .ok (.dup, 1) := by decide +kernel
theorem dX1_init_65 : decode cX1_init 65 = .ok (.sipush 200, 3) := by decide +kernel
theorem dX1_init_68 : decode cX1_init 68 = .ok (.invokespecial 36, 3) := by decide +kernel
theorem dX1_init_71 : decode cX1_init 71 = .ok (.aastore, 1) := by decide +kernel
theorem dX1_init_72 : decode cX1_init 72 = .ok (.iinc 3 1, 3) := by decide +kernel
theorem dX1_init_75 : decode cX1_init 75 = .ok (.goto (-25), 3) := by decide +kernel
theorem dX1_init_78 : decode cX1_init 78 = .ok (.return_, 1) := by decide +kernel
theorem dX1_open_0 : decode cX1_open 0 = .ok (.aload_n 1, 1) := by decide +kernel
theorem dX1_open_1 : decode cX1_open 1 = .ok (.iconst 0, 1) := by decide +kernel
theorem dX1_open_2 : decode cX1_open 2 = .ok (.aload_n 0, 1) := by decide +kernel
theorem dX1_open_3 : decode cX1_open 3 = .ok (.getfield 9, 3) := by decide +kernel
theorem dX1_open_6 : decode cX1_open 6 = .ok (.iconst 0, 1) := by decide +kernel
theorem dX1_open_7 : decode cX1_open 7 = .ok (.bipush 8, 2) := by decide +kernel
theorem dX1_open_9 : decode cX1_open 9 = .ok (.invokestatic 39, 3) := by decide +kernel
theorem dX1_open_12 : decode cX1_open 12 = .ok (.aload_n 0, 1) := by decide +kernel
theorem dX1_open_13 : decode cX1_open 13 = .ok (.iconst (-1), 1) := by decide +kernel
theorem dX1_open_14 : decode cX1_open 14 = .ok (.putfield 45, 3) := by decide +kernel
theorem dX1_open_17 : decode cX1_open 17 = .ok (.return_, 1) := by decide +kernel
theorem dX1_makeIn_0 : decode cX1_makeIn 0 = .ok (.aload_n 0, 1) := by decide +kernel
theorem dX1_makeIn_1 : decode cX1_makeIn 1 = .ok (.aload_n 1, 1) := by decide +kernel
theorem dX1_makeIn_2 : decode cX1_makeIn 2 = .ok (.invokevirtual 49, 3) := by decide +kernel
theorem dX1_makeIn_5 : decode cX1_makeIn 5 = .ok (.aload_n 0, 1) := by decide +kernel
theorem dX1_makeIn_6 : decode cX1_makeIn 6 = .ok (.aload_n 0, 1) := by decide +kernel
theorem dX1_makeIn_7 : decode cX1_makeIn 7 = .ok (.getfield 28, 3) := by decide +kernel
theorem dX1_makeIn_10 : decode cX1_makeIn 10 = .ok (.getfield 53, 3) := by decide +kernel
theorem dX1_makeIn_13 : decode cX1_makeIn 13 = .ok (.iload_n 2, 1) := by decide +kernel
theorem dX1_makeIn_14 : decode cX1_makeIn 14 = .ok (.iaload, 1) := by decide +kernel
theorem dX1_makeIn_15 : decode cX1_makeIn 15 = .ok (.invokevirtual 58, 3) := by decide +kernel
theorem dX1_makeIn_18 : decode cX1_makeIn 18 = .ok (.return_, 1) := by decide +kernel
theorem dX1_turn_0 : decode cX1_turn 0 = .ok (.aload_n 0, 1) := by decide +kernel
theorem dX1_turn_1 : decode cX1_turn 1 = .ok (.getfield 9, 3) := by decide +kernel
theorem dX1_turn_4 : decode cX1_turn 4 = .ok (.iload_n 1, 1) := by decide +kernel
theorem dX1_turn_5 : decode cX1_turn 5 = .ok (.iaload, 1) := by decide +kernel
theorem dX1_turn_6 : decode cX1_turn 6 = .ok (.iload_n 2, 1) := by decide +kernel
theorem dX1_turn_7 : decode cX1_turn 7 = .ok (.if_icmp .eq 27, 3) := by decide +kernel
theorem dX1_turn_10 : decode cX1_turn 10 = .ok (.aload_n 0, 1) := by decide +kernel
theorem dX1_turn_11 : decode cX1_turn 11 = .ok (.getfield 9, 3) := by decide +kernel
theorem dX1_turn_14 : decode cX1_turn 14 = .ok (.iload_n 1, 1) := by decide +kernel
theorem dX1_turn_15 : decode cX1_turn 15 = .ok (.iload_n 2, 1) := by decide +kernel
theorem dX1_turn_16 : decode cX1_turn 16 = .ok (.iastore, 1) := by decide +kernel
theorem dX1_turn_17 : decode cX1_turn 17 = .ok (.aload_n 0, 1) := by decide +kernel
theorem dX1_turn_18 : decode cX1_turn 18 = .ok (.dup, 1) := by decide +kernel
theorem dX1_turn_19 : decode cX1_turn 19 = .ok (.getfield 45, 3) := by decide +kernel
theorem dX1_turn_22 : decode cX1_turn 22 = .ok (.aload_n 0, 1) := by decide +kernel
theorem dX1_turn_23 : decode cX1_turn 23 = .ok (.getfield 28, 3) := by decide +kernel
theorem dX1_turn_26 : decode cX1_turn 26 = .ok (.iload_n 1, 1) := by decide +kernel
theorem dX1_turn_27 : decode cX1_turn 27 = .ok (.invokevirtual 61, 3) := by decide +kernel
theorem dX1_turn_30 : decode cX1_turn 30 = .ok (.ior, 1) := by decide +kernel
theorem dX1_turn_31 : decode cX1_turn 31 = .ok (.putfield 45, 3) := by decide +kernel
theorem dX1_turn_34 : decode cX1_turn 34 = .ok (.return_, 1) := by decide +kernel
theorem dX1_make_0 : decode cX1_make 0 = .ok (.iconst 0, 1) := by decide +kernel
theorem dX1_make_1 : decode cX1_make 1 = .ok (.istore_n 2, 1) := by decide +kernel
theorem dX1_make_2 : decode cX1_make 2 = .ok (.iload_n 2, 1) := by decide +kernel
theorem dX1_make_3 : decode cX1_make 3 = .ok (.aload_n 0, 1) := by decide +kernel
theorem dX1_make_4 : decode cX1_make 4 = .ok (.getfield 28, 3) := by decide +kernel
theorem dX1_make_7 : decode cX1_make 7 = .ok (.getfield 65, 3) := by decide +kernel
theorem dX1_make_10 : decode cX1_make 10 = .ok (.if_icmp .ge 65, 3) := by decide +kernel
theorem dX1_make_13 : decode cX1_make 13 = .ok (.iload_n 1, 1) := by decide +kernel
theorem dX1_make_14 : decode cX1_make 14 = .ok (.aload_n 0, 1) := by decide +kernel
theorem dX1_make_15 : decode cX1_make 15 = .ok (.getfield 45, 3) := by decide +kernel
theorem dX1_make_18 : decode cX1_make 18 = .ok (.iand, 1) := by decide +kernel
theorem dX1_make_19 : decode cX1_make 19 = .ok (.iconst 1, 1) := by decide +kernel
theorem dX1_make_20 : decode cX1_make 20 = .ok (.iload_n 2, 1) := by decide +kernel
theorem dX1_make_21 : decode cX1_make 21 = .ok (.ishl, 1) := by decide +kernel
theorem dX1_make_22 : decode cX1_make 22 = .ok (.iand, 1) := by decide +kernel
theorem dX1_make_23 : decode cX1_make 23 = .ok (.ifCond .eq 46, 3) := by decide +kernel
theorem dX1_make_26 : decode cX1_make 26 = .ok (.aload_n 0, 1) := by decide +kernel
theorem dX1_make_27 : decode cX1_make 27 = .ok (.getfield 17, 3) := by decide +kernel
theorem dX1_make_30 : decode cX1_make 30 = .ok (.iload_n 2, 1) := by decide +kernel
theorem dX1_make_31 : decode cX1_make 31 = .ok (.aaload, 1) := by decide +kernel
theorem dX1_make_32 : decode cX1_make 32 = .ok (.iconst 0, 1) := by decide +kernel
theorem dX1_make_33 : decode cX1_make 33 = .ok (.putfield 68, 3) := by decide +kernel
theorem dX1_make_36 : decode cX1_make 36 = .ok (.aload_n 0, 1) := by decide +kernel
theorem dX1_make_37 : decode cX1_make 37 = .ok (.getfield 21, 3) := by decide +kernel
theorem dX1_make_40 : decode cX1_make 40 = .ok (.iload_n 2, 1) := by decide +kernel
theorem dX1_make_41 : decode cX1_make 41 = .ok (.aload_n 0, 1) := by decide +kernel
theorem dX1_make_42 : decode cX1_make 42 = .ok (.iload_n 2, 1) := by decide +kernel
theorem dX1_make_43 : decode cX1_make 43 = .ok (.invokevirtual 69, 3) := by decide +kernel
theorem dX1_make_46 : decode cX1_make 46 = .ok (.ifCond .eq 17, 3) := by decide +kernel
theorem dX1_make_49 : decode cX1_make 49 = .ok (.aload_n 0, 1) := by decide +kernel
theorem dX1_make_50 : decode cX1_make 50 = .ok (.iload_n 2, 1) := by decide +kernel
theorem dX1_make_51 : decode cX1_make 51 = .ok (.aload_n 0, 1) := by decide +kernel
theorem dX1_make_52 : decode cX1_make 52 = .ok (.getfield 17, 3) := by decide +kernel
theorem dX1_make_55 : decode cX1_make 55 = .ok (.iload_n 2, 1) := by decide +kernel
theorem dX1_make_56 : decode cX1_make 56 = .ok (.aaload, 1) := by decide +kernel
theorem dX1_make_57 : decode cX1_make 57 = .ok (.invokevirtual 73, 3) := by decide +kernel
theorem dX1_make_60 : decode cX1_make 60 = .ok (.ifCond .ne 7, 3) := by decide +kernel
theorem dX1_make_63 : decode cX1_make 63 = .ok (.iconst 1, 1) := by decide +kernel
theorem dX1_make_64 : decode cX1_make 64 = .ok (.goto 4, 3) := by decide +kernel
theorem dX1_make_67 : decode cX1_make 67 = .ok (.iconst 0, 1) := by decide +kernel
theorem dX1_make_68 : decode cX1_make 68 = .ok (.bastore, 1) := by decide +kernel
theorem dX1_make_69 : decode cX1_make 69 = .ok (.iinc 2 1, 3) := by decide +kernel
theorem dX1_make_72 : decode cX1_make 72 = .ok (.goto (-70), 3) := by decide +kernel
theorem dX1_make_75 : decode cX1_make 75 = .ok (.aload_n 0, 1) := by decide +kernel
theorem dX1_make_76 : decode cX1_make 76 = .ok (.dup, 1) := by decide +kernel
theorem dX1_make_77 : decode cX1_make 77 = .ok (.getfield 45, 3) := by decide +kernel
theorem dX1_make_80 : decode cX1_make 80 = .ok (.iload_n 1, 1) := by decide +kernel
theorem dX1_make_81 : decode cX1_make 81 = .ok (.iconst (-1), 1) := by decide +kernel
theorem dX1_make_82 : decode cX1_make 82 = .ok (.ixor, 1) := by decide +kernel
theorem dX1_make_83 : decode cX1_make 83 = .ok (.iand, 1) := by decide +kernel
theorem dX1_make_84 : decode cX1_make 84 = .ok (.putfield 45, 3) := by decide +kernel
theorem dX1_make_87 : decode cX1_make 87 = .ok (.return_, 1) := by decide +kernel
theorem dX1_wordsRead_0 : decode cX1_wordsRead 0 = .ok (.iconst 0, 1) := by decide +kernel
theorem dX1_wordsRead_1 : decode cX1_wordsRead 1 = .ok (.istore_n 2, 1) := by decide +kernel
theorem dX1_wordsRead_2 : decode cX1_wordsRead 2 = .ok (.iconst 0, 1) := by decide +kernel
theorem dX1_wordsRead_3 : decode cX1_wordsRead 3 = .ok (.istore_n 3, 1) := by decide +kernel
theorem dX1_wordsRead_4 : decode cX1_wordsRead 4 = .ok (.iload_n 3, 1) := by decide +kernel
theorem dX1_wordsRead_5 : decode cX1_wordsRead 5 = .ok (.aload_n 0, 1) := by decide +kernel
theorem dX1_wordsRead_6 : decode cX1_wordsRead 6 = .ok (.getfield 28, 3) := by decide +kernel
theorem dX1_wordsRead_9 : decode cX1_wordsRead 9 = .ok (.getfield 65, 3) := by decide +kernel
theorem dX1_wordsRead_12 : decode cX1_wordsRead 12 = .ok (.if_icmp .ge 37, 3) := by decide +kernel
theorem dX1_wordsRead_15 : decode cX1_wordsRead 15 = .ok (.iload_n 1, 1) := by decide +kernel
theorem dX1_wordsRead_16 : decode cX1_wordsRead 16 = .ok (.iload_n 3, 1) := by decide +kernel
theorem dX1_wordsRead_17 : decode cX1_wordsRead 17 = .ok (.iushr, 1) := by decide +kernel
theorem dX1_wordsRead_18 : decode cX1_wordsRead 18 = .ok (.iconst 1, 1) := by decide +kernel
theorem dX1_wordsRead_19 : decode cX1_wordsRead 19 = .ok (.iand, 1) := by decide +kernel
theorem dX1_wordsRead_20 : decode cX1_wordsRead 20 = .ok (.ifCond .eq 23, 3) := by decide +kernel
theorem dX1_wordsRead_23 : decode cX1_wordsRead 23 = .ok (.aload_n 0, 1) := by decide +kernel
theorem dX1_wordsRead_24 : decode cX1_wordsRead 24 = .ok (.getfield 21, 3) := by decide +kernel
theorem dX1_wordsRead_27 : decode cX1_wordsRead 27 = .ok (.iload_n 3, 1) := by decide +kernel
theorem dX1_wordsRead_28 : decode cX1_wordsRead 28 = .ok (.baload, 1) := by decide +kernel
theorem dX1_wordsRead_29 : decode cX1_wordsRead 29 = .ok (.ifCond .ne 14, 3) := by decide +kernel
theorem dX1_wordsRead_32 : decode cX1_wordsRead 32 = .ok (.iload_n 2, 1) := by decide +kernel
theorem dX1_wordsRead_33 : decode cX1_wordsRead 33 = .ok (.aload_n 0, 1) := by decide +kernel
theorem dX1_wordsRead_34 : decode cX1_wordsRead 34 = .ok (.getfield 28, 3) := by decide +kernel
theorem dX1_wordsRead_37 : decode cX1_wordsRead 37 = .ok (.iload_n 3, 1) := by decide +kernel
theorem dX1_wordsRead_38 : decode cX1_wordsRead 38 = .ok (.invokevirtual 77, 3) := by decide +kernel
theorem dX1_wordsRead_41 : decode cX1_wordsRead 41 = .ok (.ior, 1) := by decide +kernel
theorem dX1_wordsRead_42 : decode cX1_wordsRead 42 = .ok (.istore_n 2, 1) := by decide +kernel
theorem dX1_wordsRead_43 : decode cX1_wordsRead 43 = .ok (.iinc 3 1, 3) := by decide +kernel
theorem dX1_wordsRead_46 : decode cX1_wordsRead 46 = .ok (.goto (-42), 3) := by decide +kernel
theorem dX1_wordsRead_49 : decode cX1_wordsRead 49 = .ok (.iload_n 2, 1) := by decide +kernel
theorem dX1_wordsRead_50 : decode cX1_wordsRead 50 = .ok (.ireturn, 1) := by decide +kernel
theorem dX1_hasGoodInputs_0 : decode cX1_hasGoodInputs 0 = .ok (.iconst 0, 1) := by decide +kernel
theorem dX1_hasGoodInputs_1 : decode cX1_hasGoodInputs 1 = .ok (.istore_n 2, 1) := by decide +kernel
theorem dX1_hasGoodInputs_2 : decode cX1_hasGoodInputs 2 = .ok (.iload_n 2, 1) := by decide +kernel
theorem dX1_hasGoodInputs_3 : decode cX1_hasGoodInputs 3 = .ok (.aload_n 0, 1) := by decide +kernel
theorem dX1_hasGoodInputs_4 : decode cX1_hasGoodInputs 4 = .ok (.getfield 28, 3) := by decide +kernel
theorem dX1_hasGoodInputs_7 : decode cX1_hasGoodInputs 7 = .ok (.getfield 80, 3) := by decide +kernel
theorem dX1_hasGoodInputs_10 : decode cX1_hasGoodInputs 10 = .ok (.iload_n 1, 1) := by decide +kernel
theorem dX1_hasGoodInputs_11 : decode cX1_hasGoodInputs 11 = .ok (.iaload, 1) := by decide +kernel
theorem dX1_hasGoodInputs_12 : decode cX1_hasGoodInputs 12 = .ok (.if_icmp .ge 56, 3) := by decide +kernel
theorem dX1_hasGoodInputs_15 : decode cX1_hasGoodInputs 15 = .ok (.aload_n 0, 1) := by decide +kernel
theorem dX1_hasGoodInputs_16 : decode cX1_hasGoodInputs 16 = .ok (.getfield 28, 3) := by decide +kernel
theorem dX1_hasGoodInputs_19 : decode cX1_hasGoodInputs 19 = .ok (.iload_n 1, 1) := by decide +kernel
theorem dX1_hasGoodInputs_20 : decode cX1_hasGoodInputs 20 = .ok (.iload_n 2, 1) := by decide +kernel
theorem dX1_hasGoodInputs_21 : decode cX1_hasGoodInputs 21 = .ok (.invokevirtual 83, 3) := by decide +kernel
theorem dX1_hasGoodInputs_24 : decode cX1_hasGoodInputs 24 = .ok (.istore_n 3, 1) := by decide +kernel
theorem dX1_hasGoodInputs_25 : decode cX1_hasGoodInputs 25 = .ok (.iload_n 3, 1) := by decide +kernel
theorem dX1_hasGoodInputs_26 : decode cX1_hasGoodInputs 26 = .ok (.bipush 100, 2) := by decide +kernel
theorem dX1_hasGoodInputs_28 : decode cX1_hasGoodInputs 28 = .ok (.if_icmp .ge 20, 3) := by decide +kernel
theorem dX1_hasGoodInputs_31 : decode cX1_hasGoodInputs 31 = .ok (.aload_n 0, 1) := by decide +kernel
theorem dX1_hasGoodInputs_32 : decode cX1_hasGoodInputs 32 = .ok (.getfield 32, 3) := by decide +kernel
theorem dX1_hasGoodInputs_35 : decode cX1_hasGoodInputs 35 = .ok (.getfield 87, 3) := by decide +kernel
theorem dX1_hasGoodInputs_38 : decode cX1_hasGoodInputs 38 = .ok (.iload_n 3, 1) := by decide +kernel
theorem dX1_hasGoodInputs_39 : decode cX1_hasGoodInputs 39 = .ok (.iushr, 1) := by decide +kernel
theorem dX1_hasGoodInputs_40 : decode cX1_hasGoodInputs 40 = .ok (.iconst 1, 1) := by decide +kernel
theorem dX1_hasGoodInputs_41 : decode cX1_hasGoodInputs 41 = .ok (.iand, 1) := by decide +kernel
theorem dX1_hasGoodInputs_42 : decode cX1_hasGoodInputs 42 = .ok (.ifCond .eq 20, 3) := by decide +kernel
theorem dX1_hasGoodInputs_45 : decode cX1_hasGoodInputs 45 = .ok (.goto 15, 3) := by decide +kernel
theorem dX1_hasGoodInputs_48 : decode cX1_hasGoodInputs 48 = .ok (.aload_n 0, 1) := by decide +kernel
theorem dX1_hasGoodInputs_49 : decode cX1_hasGoodInputs 49 = .ok (.getfield 21, 3) := by decide +kernel
theorem dX1_hasGoodInputs_52 : decode cX1_hasGoodInputs 52 = .ok (.iload_n 3, 1) := by decide +kernel
theorem dX1_hasGoodInputs_53 : decode cX1_hasGoodInputs 53 = .ok (.bipush 100, 2) := by decide +kernel
theorem dX1_hasGoodInputs_55 : decode cX1_hasGoodInputs 55 = .ok (.isub, 1) := by decide +kernel
theorem dX1_hasGoodInputs_56 : decode cX1_hasGoodInputs 56 = .ok (.baload, 1) := by decide +kernel
theorem dX1_hasGoodInputs_57 : decode cX1_hasGoodInputs 57 = .ok (.ifCond .eq 5, 3) := by decide +kernel
theorem dX1_hasGoodInputs_60 : decode cX1_hasGoodInputs 60 = .ok (.iconst 0, 1) := by decide +kernel
theorem dX1_hasGoodInputs_61 : decode cX1_hasGoodInputs 61 = .ok (.ireturn, 1) := by decide +kernel
theorem dX1_hasGoodInputs_62 : decode cX1_hasGoodInputs 62 = .ok (.iinc 2 1, 3) := by decide +kernel
theorem dX1_hasGoodInputs_65 : decode cX1_hasGoodInputs 65 = .ok (.goto (-63), 3) := by decide +kernel
theorem dX1_hasGoodInputs_68 : decode cX1_hasGoodInputs 68 = .ok (.aload_n 0, 1) := by decide +kernel
theorem dX1_hasGoodInputs_69 : decode cX1_hasGoodInputs 69 = .ok (.getfield 28, 3) := by decide +kernel
theorem dX1_hasGoodInputs_72 : decode cX1_hasGoodInputs 72 = .ok (.getfield 80, 3) := by decide +kernel
theorem dX1_hasGoodInputs_75 : decode cX1_hasGoodInputs 75 = .ok (.iload_n 1, 1) := by decide +kernel
theorem dX1_hasGoodInputs_76 : decode cX1_hasGoodInputs 76 = .ok (.iaload, 1) := by decide +kernel
theorem dX1_hasGoodInputs_77 : decode cX1_hasGoodInputs 77 = .ok (.ifCond .le 7, 3) := by decide +kernel
theorem dX1_hasGoodInputs_80 : decode cX1_hasGoodInputs 80 = .ok (.iconst 1, 1) := by decide +kernel
theorem dX1_hasGoodInputs_81 : decode cX1_hasGoodInputs 81 = .ok (.goto 4, 3) := by decide +kernel
theorem dX1_hasGoodInputs_84 : decode cX1_hasGoodInputs 84 = .ok (.iconst 0, 1) := by decide +kernel
theorem dX1_hasGoodInputs_85 : decode cX1_hasGoodInputs 85 = .ok (.ireturn, 1) := by decide +kernel
theorem dX1_inputRow_0 : decode cX1_inputRow 0 = .ok (.aload_n 0, 1) := by decide +kernel
theorem dX1_inputRow_1 : decode cX1_inputRow 1 = .ok (.getfield 28, 3) := by decide +kernel
theorem dX1_inputRow_4 : decode cX1_inputRow 4 = .ok (.iload_n 1, 1) := by decide +kernel
theorem dX1_inputRow_5 : decode cX1_inputRow 5 = .ok (.iload_n 2, 1) := by decide +kernel
theorem dX1_inputRow_6 : decode cX1_inputRow 6 = .ok (.invokevirtual 83, 3) := by decide +kernel
theorem dX1_inputRow_9 : decode cX1_inputRow 9 = .ok (.istore_n 3, 1) := by decide +kernel
theorem dX1_inputRow_10 : decode cX1_inputRow 10 = .ok (.iload_n 3, 1) := by decide +kernel
theorem dX1_inputRow_11 : decode cX1_inputRow 11 = .ok (.bipush 100, 2) := by decide +kernel
theorem dX1_inputRow_13 : decode cX1_inputRow 13 = .ok (.if_icmp .ge 15, 3) := by decide +kernel
theorem dX1_inputRow_16 : decode cX1_inputRow 16 = .ok (.aload_n 0, 1) := by decide +kernel
theorem dX1_inputRow_17 : decode cX1_inputRow 17 = .ok (.getfield 32, 3) := by decide +kernel
theorem dX1_inputRow_20 : decode cX1_inputRow 20 = .ok (.getfield 92, 3) := by decide +kernel
theorem dX1_inputRow_23 : decode cX1_inputRow 23 = .ok (.iload_n 3, 1) := by decide +kernel
theorem dX1_inputRow_24 : decode cX1_inputRow 24 = .ok (.aaload, 1) := by decide +kernel
theorem dX1_inputRow_25 : decode cX1_inputRow 25 = .ok (.goto 12, 3) := by decide +kernel
theorem dX1_inputRow_28 : decode cX1_inputRow 28 = .ok (.aload_n 0, 1) := by decide +kernel
theorem dX1_inputRow_29 : decode cX1_inputRow 29 = .ok (.getfield 17, 3) := by decide +kernel
theorem dX1_inputRow_32 : decode cX1_inputRow 32 = .ok (.iload_n 3, 1) := by decide +kernel
theorem dX1_inputRow_33 : decode cX1_inputRow 33 = .ok (.bipush 100, 2) := by decide +kernel
theorem dX1_inputRow_35 : decode cX1_inputRow 35 = .ok (.isub, 1) := by decide +kernel
theorem dX1_inputRow_36 : decode cX1_inputRow 36 = .ok (.aaload, 1) := by decide +kernel
theorem dX1_inputRow_37 : decode cX1_inputRow 37 = .ok (.areturn, 1) := by decide +kernel
theorem dX1_runTool_0 : decode cX1_runTool 0 = .ok (.aload_n 0, 1) := by decide +kernel
theorem dX1_runTool_1 : decode cX1_runTool 1 = .ok (.getfield 28, 3) := by decide +kernel
theorem dX1_runTool_4 : decode cX1_runTool 4 = .ok (.getfield 95, 3) := by decide +kernel
theorem dX1_runTool_7 : decode cX1_runTool 7 = .ok (.iload_n 1, 1) := by decide +kernel
theorem dX1_runTool_8 : decode cX1_runTool 8 = .ok (.iaload, 1) := by decide +kernel
theorem dX1_runTool_9 : decode cX1_runTool 9 = .ok (.istore_n 3, 1) := by decide +kernel
theorem dX1_runTool_10 : decode cX1_runTool 10 = .ok (.aload_n 0, 1) := by decide +kernel
theorem dX1_runTool_11 : decode cX1_runTool 11 = .ok (.getfield 28, 3) := by decide +kernel
theorem dX1_runTool_14 : decode cX1_runTool 14 = .ok (.getfield 98, 3) := by decide +kernel
theorem dX1_runTool_17 : decode cX1_runTool 17 = .ok (.iload_n 1, 1) := by decide +kernel
theorem dX1_runTool_18 : decode cX1_runTool 18 = .ok (.iaload, 1) := by decide +kernel
theorem dX1_runTool_19 : decode cX1_runTool 19 = .ok (.istore 4, 2) := by decide +kernel
theorem dX1_runTool_21 : decode cX1_runTool 21 = .ok (.aload_n 0, 1) := by decide +kernel
theorem dX1_runTool_22 : decode cX1_runTool 22 = .ok (.getfield 9, 3) := by decide +kernel
theorem dX1_runTool_25 : decode cX1_runTool 25 = .ok (.aload_n 0, 1) := by decide +kernel
theorem dX1_runTool_26 : decode cX1_runTool 26 = .ok (.getfield 28, 3) := by decide +kernel
theorem dX1_runTool_29 : decode cX1_runTool 29 = .ok (.getfield 101, 3) := by decide +kernel
theorem dX1_runTool_32 : decode cX1_runTool 32 = .ok (.iload_n 1, 1) := by decide +kernel
theorem dX1_runTool_33 : decode cX1_runTool 33 = .ok (.iaload, 1) := by decide +kernel
theorem dX1_runTool_34 : decode cX1_runTool 34 = .ok (.iaload, 1) := by decide +kernel
theorem dX1_runTool_35 : decode cX1_runTool 35 = .ok (.istore 5, 2) := by decide +kernel
theorem dX1_runTool_37 : decode cX1_runTool 37 = .ok (.iload_n 3, 1) := by decide +kernel
theorem dX1_runTool_38 : decode cX1_runTool 38 = .ok (.iconst 5, 1) := by decide +kernel
theorem dX1_runTool_39 : decode cX1_runTool 39 = .ok (.if_icmp .ne 35, 3) := by decide +kernel
theorem dX1_runTool_42 : decode cX1_runTool 42 = .ok (.aload_n 2, 1) := by decide +kernel
theorem dX1_runTool_43 : decode cX1_runTool 43 = .ok (.aload_n 0, 1) := by decide +kernel
theorem dX1_runTool_44 : decode cX1_runTool 44 = .ok (.iload_n 1, 1) := by decide +kernel
theorem dX1_runTool_45 : decode cX1_runTool 45 = .ok (.iload 5, 2) := by decide +kernel
theorem dX1_runTool_47 : decode cX1_runTool 47 = .ok (.iload 4, 2) := by decide +kernel
theorem dX1_runTool_49 : decode cX1_runTool 49 = .ok (.if_icmp .ge 7, 3) := by decide +kernel
theorem dX1_runTool_52 : decode cX1_runTool 52 = .ok (.iconst 0, 1) := by decide +kernel
theorem dX1_runTool_53 : decode cX1_runTool 53 = .ok (.goto 14, 3) := by decide +kernel
theorem dX1_runTool_56 : decode cX1_runTool 56 = .ok (.aload_n 0, 1) := by decide +kernel
theorem dX1_runTool_57 : decode cX1_runTool 57 = .ok (.getfield 28, 3) := by decide +kernel
theorem dX1_runTool_60 : decode cX1_runTool 60 = .ok (.getfield 80, 3) := by decide +kernel
theorem dX1_runTool_63 : decode cX1_runTool 63 = .ok (.iload_n 1, 1) := by decide +kernel
theorem dX1_runTool_64 : decode cX1_runTool 64 = .ok (.iaload, 1) := by decide +kernel
theorem dX1_runTool_65 : decode cX1_runTool 65 = .ok (.iconst 1, 1) := by decide +kernel
theorem dX1_runTool_66 : decode cX1_runTool 66 = .ok (.isub, 1) := by decide +kernel
theorem dX1_runTool_67 : decode cX1_runTool 67 = .ok (.invokevirtual 104, 3) := by decide +kernel
theorem dX1_runTool_70 : decode cX1_runTool 70 = .ok (.invokevirtual 108, 3) := by decide +kernel
theorem dX1_runTool_73 : decode cX1_runTool 73 = .ok (.ireturn, 1) := by decide +kernel
theorem dX1_runTool_74 : decode cX1_runTool 74 = .ok (.aload_n 0, 1) := by decide +kernel
theorem dX1_runTool_75 : decode cX1_runTool 75 = .ok (.iload_n 1, 1) := by decide +kernel
theorem dX1_runTool_76 : decode cX1_runTool 76 = .ok (.aload_n 2, 1) := by decide +kernel
theorem dX1_runTool_77 : decode cX1_runTool 77 = .ok (.iload_n 3, 1) := by decide +kernel
theorem dX1_runTool_78 : decode cX1_runTool 78 = .ok (.iconst 2, 1) := by decide +kernel
theorem dX1_runTool_79 : decode cX1_runTool 79 = .ok (.if_icmp .ne 14, 3) := by decide +kernel
theorem dX1_runTool_82 : decode cX1_runTool 82 = .ok (.iload 5, 2) := by decide +kernel
theorem dX1_runTool_84 : decode cX1_runTool 84 = .ok (.iconst 1, 1) := by decide +kernel
theorem dX1_runTool_85 : decode cX1_runTool 85 = .ok (.iand, 1) := by decide +kernel
theorem dX1_runTool_86 : decode cX1_runTool 86 = .ok (.ifCond .eq 7, 3) := by decide +kernel
theorem dX1_runTool_89 : decode cX1_runTool 89 = .ok (.iconst 1, 1) := by decide +kernel
theorem dX1_runTool_90 : decode cX1_runTool 90 = .ok (.goto 4, 3) := by decide +kernel
theorem dX1_runTool_93 : decode cX1_runTool 93 = .ok (.iconst 0, 1) := by decide +kernel
theorem dX1_runTool_94 : decode cX1_runTool 94 = .ok (.invokevirtual 112, 3) := by decide +kernel
theorem dX1_runTool_97 : decode cX1_runTool 97 = .ok (.ifCond .ne 5, 3) := by decide +kernel
theorem dX1_runTool_100 : decode cX1_runTool 100 = .ok (.iconst 0, 1) := by decide +kernel
theorem dX1_runTool_101 : decode cX1_runTool 101 = .ok (.ireturn, 1) := by decide +kernel
theorem dX1_runTool_102 : decode cX1_runTool 102 = .ok (.iload_n 3, 1) := by decide +kernel
theorem dX1_runTool_103 : decode cX1_runTool 103 = .ok (.tableswitch 77 1 7 #[41, 77, 48, 56, 77, 64, 71], 41) := by decide +kernel
theorem dX1_runTool_144 : decode cX1_runTool 144 = .ok (.aload_n 2, 1) := by decide +kernel
theorem dX1_runTool_145 : decode cX1_runTool 145 = .ok (.iload 5, 2) := by decide +kernel
theorem dX1_runTool_147 : decode cX1_runTool 147 = .ok (.invokevirtual 116, 3) := by decide +kernel
theorem dX1_runTool_150 : decode cX1_runTool 150 = .ok (.ireturn, 1) := by decide +kernel
theorem dX1_runTool_151 : decode cX1_runTool 151 = .ok (.aload_n 2, 1) := by decide +kernel
theorem dX1_runTool_152 : decode cX1_runTool 152 = .ok (.iload 4, 2) := by decide +kernel
theorem dX1_runTool_154 : decode cX1_runTool 154 = .ok (.invokestatic 119, 3) := by decide +kernel
theorem dX1_runTool_157 : decode cX1_runTool 157 = .ok (.iconst 1, 1) := by decide +kernel
theorem dX1_runTool_158 : decode cX1_runTool 158 = .ok (.ireturn, 1) := by decide +kernel
theorem dX1_runTool_159 : decode cX1_runTool 159 = .ok (.aload_n 2, 1) := by decide +kernel
theorem dX1_runTool_160 : decode cX1_runTool 160 = .ok (.iload 4, 2) := by decide +kernel
theorem dX1_runTool_162 : decode cX1_runTool 162 = .ok (.invokestatic 123, 3) := by decide +kernel
theorem dX1_runTool_165 : decode cX1_runTool 165 = .ok (.iconst 1, 1) := by decide +kernel
theorem dX1_runTool_166 : decode cX1_runTool 166 = .ok (.ireturn, 1) := by decide +kernel
theorem dX1_runTool_167 : decode cX1_runTool 167 = .ok (.aload_n 0, 1) := by decide +kernel
theorem dX1_runTool_168 : decode cX1_runTool 168 = .ok (.aload_n 2, 1) := by decide +kernel
theorem dX1_runTool_169 : decode cX1_runTool 169 = .ok (.invokevirtual 126, 3) := by decide +kernel
theorem dX1_runTool_172 : decode cX1_runTool 172 = .ok (.iconst 1, 1) := by decide +kernel
theorem dX1_runTool_173 : decode cX1_runTool 173 = .ok (.ireturn, 1) := by decide +kernel
theorem dX1_runTool_174 : decode cX1_runTool 174 = .ok (.aload_n 2, 1) := by decide +kernel
theorem dX1_runTool_175 : decode cX1_runTool 175 = .ok (.invokestatic 130, 3) := by decide +kernel
theorem dX1_runTool_178 : decode cX1_runTool 178 = .ok (.iconst 1, 1) := by decide +kernel
theorem dX1_runTool_179 : decode cX1_runTool 179 = .ok (.ireturn, 1) := by decide +kernel
theorem dX1_runTool_180 : decode cX1_runTool 180 = .ok (.iconst 1, 1) := by decide +kernel
theorem dX1_runTool_181 : decode cX1_runTool 181 = .ok (.ireturn, 1) := by decide +kernel
theorem dX1_join_0 : decode cX1_join 0 = .ok (.aload_n 0, 1) := by decide +kernel
theorem dX1_join_1 : decode cX1_join 1 = .ok (.getfield 28, 3) := by decide +kernel
theorem dX1_join_4 : decode cX1_join 4 = .ok (.getfield 80, 3) := by decide +kernel
theorem dX1_join_7 : decode cX1_join 7 = .ok (.iload_n 1, 1) := by decide +kernel
theorem dX1_join_8 : decode cX1_join 8 = .ok (.iaload, 1) := by decide +kernel
theorem dX1_join_9 : decode cX1_join 9 = .ok (.istore 4, 2) := by decide +kernel
theorem dX1_join_11 : decode cX1_join 11 = .ok (.iconst 0, 1) := by decide +kernel
theorem dX1_join_12 : decode cX1_join 12 = .ok (.istore 5, 2) := by decide +kernel
theorem dX1_join_14 : decode cX1_join 14 = .ok (.iload 5, 2) := by decide +kernel
theorem dX1_join_16 : decode cX1_join 16 = .ok (.iload 4, 2) := by decide +kernel
theorem dX1_join_18 : decode cX1_join 18 = .ok (.if_icmp .ge 39, 3) := by decide +kernel
theorem dX1_join_21 : decode cX1_join 21 = .ok (.aload_n 2, 1) := by decide +kernel
theorem dX1_join_22 : decode cX1_join 22 = .ok (.aload_n 0, 1) := by decide +kernel
theorem dX1_join_23 : decode cX1_join 23 = .ok (.iload_n 1, 1) := by decide +kernel
theorem dX1_join_24 : decode cX1_join 24 = .ok (.iload_n 3, 1) := by decide +kernel
theorem dX1_join_25 : decode cX1_join 25 = .ok (.ifCond .eq 13, 3) := by decide +kernel
theorem dX1_join_28 : decode cX1_join 28 = .ok (.iload 4, 2) := by decide +kernel
theorem dX1_join_30 : decode cX1_join 30 = .ok (.iconst 1, 1) := by decide +kernel
theorem dX1_join_31 : decode cX1_join 31 = .ok (.isub, 1) := by decide +kernel
theorem dX1_join_32 : decode cX1_join 32 = .ok (.iload 5, 2) := by decide +kernel
theorem dX1_join_34 : decode cX1_join 34 = .ok (.isub, 1) := by decide +kernel
theorem dX1_join_35 : decode cX1_join 35 = .ok (.goto 5, 3) := by decide +kernel
theorem dX1_join_38 : decode cX1_join 38 = .ok (.iload 5, 2) := by decide +kernel
theorem dX1_join_40 : decode cX1_join 40 = .ok (.invokevirtual 104, 3) := by decide +kernel
theorem dX1_join_43 : decode cX1_join 43 = .ok (.invokevirtual 108, 3) := by decide +kernel
theorem dX1_join_46 : decode cX1_join 46 = .ok (.ifCond .ne 5, 3) := by decide +kernel
theorem dX1_join_49 : decode cX1_join 49 = .ok (.iconst 0, 1) := by decide +kernel
theorem dX1_join_50 : decode cX1_join 50 = .ok (.ireturn, 1) := by decide +kernel
theorem dX1_join_51 : decode cX1_join 51 = .ok (.iinc 5 1, 3) := by decide +kernel
theorem dX1_join_54 : decode cX1_join 54 = .ok (.goto (-40), 3) := by decide +kernel
theorem dX1_join_57 : decode cX1_join 57 = .ok (.iconst 1, 1) := by decide +kernel
theorem dX1_join_58 : decode cX1_join 58 = .ok (.ireturn, 1) := by decide +kernel
theorem dX1_strip_0 : decode cX1_strip 0 = .ok (.iconst 0, 1) := by decide +kernel
theorem dX1_strip_1 : decode cX1_strip 1 = .ok (.istore_n 2, 1) := by decide +kernel
theorem dX1_strip_2 : decode cX1_strip 2 = .ok (.iconst 0, 1) := by decide +kernel
theorem dX1_strip_3 : decode cX1_strip 3 = .ok (.istore_n 3, 1) := by decide +kernel
theorem dX1_strip_4 : decode cX1_strip 4 = .ok (.iload_n 3, 1) := by decide +kernel
theorem dX1_strip_5 : decode cX1_strip 5 = .ok (.aload_n 0, 1) := by decide +kernel
theorem dX1_strip_6 : decode cX1_strip 6 = .ok (.getfield 68, 3) := by decide +kernel
theorem dX1_strip_9 : decode cX1_strip 9 = .ok (.if_icmp .ge 34, 3) := by decide +kernel
theorem dX1_strip_12 : decode cX1_strip 12 = .ok (.aload_n 0, 1) := by decide +kernel
theorem dX1_strip_13 : decode cX1_strip 13 = .ok (.getfield 133, 3) := by decide +kernel
theorem dX1_strip_16 : decode cX1_strip 16 = .ok (.iload_n 3, 1) := by decide +kernel
theorem dX1_strip_17 : decode cX1_strip 17 = .ok (.iaload, 1) := by decide +kernel
theorem dX1_strip_18 : decode cX1_strip 18 = .ok (.iload_n 1, 1) := by decide +kernel
theorem dX1_strip_19 : decode cX1_strip 19 = .ok (.if_icmp .eq 18, 3) := by decide +kernel
theorem dX1_strip_22 : decode cX1_strip 22 = .ok (.aload_n 0, 1) := by decide +kernel
theorem dX1_strip_23 : decode cX1_strip 23 = .ok (.getfield 133, 3) := by decide +kernel
theorem dX1_strip_26 : decode cX1_strip 26 = .ok (.iload_n 2, 1) := by decide +kernel
theorem dX1_strip_27 : decode cX1_strip 27 = .ok (.aload_n 0, 1) := by decide +kernel
theorem dX1_strip_28 : decode cX1_strip 28 = .ok (.getfield 133, 3) := by decide +kernel
theorem dX1_strip_31 : decode cX1_strip 31 = .ok (.iload_n 3, 1) := by decide +kernel
theorem dX1_strip_32 : decode cX1_strip 32 = .ok (.iaload, 1) := by decide +kernel
theorem dX1_strip_33 : decode cX1_strip 33 = .ok (.iastore, 1) := by decide +kernel
theorem dX1_strip_34 : decode cX1_strip 34 = .ok (.iinc 2 1, 3) := by decide +kernel
theorem dX1_strip_37 : decode cX1_strip 37 = .ok (.iinc 3 1, 3) := by decide +kernel
theorem dX1_strip_40 : decode cX1_strip 40 = .ok (.goto (-36), 3) := by decide +kernel
theorem dX1_strip_43 : decode cX1_strip 43 = .ok (.aload_n 0, 1) := by decide +kernel
theorem dX1_strip_44 : decode cX1_strip 44 = .ok (.iload_n 2, 1) := by decide +kernel
theorem dX1_strip_45 : decode cX1_strip 45 = .ok (.putfield 68, 3) := by decide +kernel
theorem dX1_strip_48 : decode cX1_strip 48 = .ok (.return_, 1) := by decide +kernel
theorem dX1_mask_0 : decode cX1_mask 0 = .ok (.iconst 0, 1) := by decide +kernel
theorem dX1_mask_1 : decode cX1_mask 1 = .ok (.istore_n 2, 1) := by decide +kernel
theorem dX1_mask_2 : decode cX1_mask 2 = .ok (.iload_n 2, 1) := by decide +kernel
theorem dX1_mask_3 : decode cX1_mask 3 = .ok (.aload_n 0, 1) := by decide +kernel
theorem dX1_mask_4 : decode cX1_mask 4 = .ok (.getfield 68, 3) := by decide +kernel
theorem dX1_mask_7 : decode cX1_mask 7 = .ok (.if_icmp .ge 19, 3) := by decide +kernel
theorem dX1_mask_10 : decode cX1_mask 10 = .ok (.aload_n 0, 1) := by decide +kernel
theorem dX1_mask_11 : decode cX1_mask 11 = .ok (.getfield 133, 3) := by decide +kernel
theorem dX1_mask_14 : decode cX1_mask 14 = .ok (.iload_n 2, 1) := by decide +kernel
theorem dX1_mask_15 : decode cX1_mask 15 = .ok (.dup2, 1) := by decide +kernel
theorem dX1_mask_16 : decode cX1_mask 16 = .ok (.iaload, 1) := by decide +kernel
theorem dX1_mask_17 : decode cX1_mask 17 = .ok (.iload_n 1, 1) := by decide +kernel
theorem dX1_mask_18 : decode cX1_mask 18 = .ok (.ixor, 1) := by decide +kernel
theorem dX1_mask_19 : decode cX1_mask 19 = .ok (.iastore, 1) := by decide +kernel
theorem dX1_mask_20 : decode cX1_mask 20 = .ok (.iinc 2 1, 3) := by decide +kernel
theorem dX1_mask_23 : decode cX1_mask 23 = .ok (.goto (-21), 3) := by decide +kernel
theorem dX1_mask_26 : decode cX1_mask 26 = .ok (.return_, 1) := by decide +kernel
theorem dX1_sort_0 : decode cX1_sort 0 = .ok (.aload_n 0, 1) := by decide +kernel
theorem dX1_sort_1 : decode cX1_sort 1 = .ok (.getfield 25, 3) := by decide +kernel
theorem dX1_sort_4 : decode cX1_sort 4 = .ok (.iconst 0, 1) := by decide +kernel
theorem dX1_sort_5 : decode cX1_sort 5 = .ok (.invokestatic 136, 3) := by decide +kernel
theorem dX1_sort_8 : decode cX1_sort 8 = .ok (.iconst 0, 1) := by decide +kernel
theorem dX1_sort_9 : decode cX1_sort 9 = .ok (.istore_n 2, 1) := by decide +kernel
theorem dX1_sort_10 : decode cX1_sort 10 = .ok (.iload_n 2, 1) := by decide +kernel
theorem dX1_sort_11 : decode cX1_sort 11 = .ok (.aload_n 1, 1) := by decide +kernel
theorem dX1_sort_12 : decode cX1_sort 12 = .ok (.getfield 68, 3) := by decide +kernel
theorem dX1_sort_15 : decode cX1_sort 15 = .ok (.if_icmp .ge 28, 3) := by decide +kernel
theorem dX1_sort_18 : decode cX1_sort 18 = .ok (.aload_n 0, 1) := by decide +kernel
theorem dX1_sort_19 : decode cX1_sort 19 = .ok (.getfield 25, 3) := by decide +kernel
theorem dX1_sort_22 : decode cX1_sort 22 = .ok (.aload_n 1, 1) := by decide +kernel
theorem dX1_sort_23 : decode cX1_sort 23 = .ok (.getfield 133, 3) := by decide +kernel
theorem dX1_sort_26 : decode cX1_sort 26 = .ok (.iload_n 2, 1) := by decide +kernel
theorem dX1_sort_27 : decode cX1_sort 27 = .ok (.iaload, 1) := by decide +kernel
theorem dX1_sort_28 : decode cX1_sort 28 = .ok (.sipush 255, 3) := by decide +kernel
theorem dX1_sort_31 : decode cX1_sort 31 = .ok (.iand, 1) := by decide +kernel
theorem dX1_sort_32 : decode cX1_sort 32 = .ok (.dup2, 1) := by decide +kernel
theorem dX1_sort_33 : decode cX1_sort 33 = .ok (.iaload, 1) := by decide +kernel
theorem dX1_sort_34 : decode cX1_sort 34 = .ok (.iconst 1, 1) := by decide +kernel
theorem dX1_sort_35 : decode cX1_sort 35 = .ok (.iadd, 1) := by decide +kernel
theorem dX1_sort_36 : decode cX1_sort 36 = .ok (.iastore, 1) := by decide +kernel
theorem dX1_sort_37 : decode cX1_sort 37 = .ok (.iinc 2 1, 3) := by decide +kernel
theorem dX1_sort_40 : decode cX1_sort 40 = .ok (.goto (-30), 3) := by decide +kernel
theorem dX1_sort_43 : decode cX1_sort 43 = .ok (.aload_n 1, 1) := by decide +kernel
theorem dX1_sort_44 : decode cX1_sort 44 = .ok (.iconst 0, 1) := by decide +kernel
theorem dX1_sort_45 : decode cX1_sort 45 = .ok (.putfield 68, 3) := by decide +kernel
theorem dX1_sort_48 : decode cX1_sort 48 = .ok (.iconst 0, 1) := by decide +kernel
theorem dX1_sort_49 : decode cX1_sort 49 = .ok (.istore_n 2, 1) := by decide +kernel
theorem dX1_sort_50 : decode cX1_sort 50 = .ok (.iload_n 2, 1) := by decide +kernel
theorem dX1_sort_51 : decode cX1_sort 51 = .ok (.sipush 255, 3) := by decide +kernel
theorem dX1_sort_54 : decode cX1_sort 54 = .ok (.if_icmp .gt 33, 3) := by decide +kernel
theorem dX1_sort_57 : decode cX1_sort 57 = .ok (.iconst 0, 1) := by decide +kernel
theorem dX1_sort_58 : decode cX1_sort 58 = .ok (.istore_n 3, 1) := by decide +kernel
theorem dX1_sort_59 : decode cX1_sort 59 = .ok (.iload_n 3, 1) := by decide +kernel
theorem dX1_sort_60 : decode cX1_sort 60 = .ok (.aload_n 0, 1) := by decide +kernel
theorem dX1_sort_61 : decode cX1_sort 61 = .ok (.getfield 25, 3) := by decide +kernel
theorem dX1_sort_64 : decode cX1_sort 64 = .ok (.iload_n 2, 1) := by decide +kernel
theorem dX1_sort_65 : decode cX1_sort 65 = .ok (.iaload, 1) := by decide +kernel
theorem dX1_sort_66 : decode cX1_sort 66 = .ok (.if_icmp .ge 15, 3) := by decide +kernel
theorem dX1_sort_69 : decode cX1_sort 69 = .ok (.aload_n 1, 1) := by decide +kernel
theorem dX1_sort_70 : decode cX1_sort 70 = .ok (.iload_n 2, 1) := by decide +kernel
theorem dX1_sort_71 : decode cX1_sort 71 = .ok (.invokevirtual 116, 3) := by decide +kernel
theorem dX1_sort_74 : decode cX1_sort 74 = .ok (.pop, 1) := by decide +kernel
theorem dX1_sort_75 : decode cX1_sort 75 = .ok (.iinc 3 1, 3) := by decide +kernel
theorem dX1_sort_78 : decode cX1_sort 78 = .ok (.goto (-19), 3) := by decide +kernel
theorem dX1_sort_81 : decode cX1_sort 81 = .ok (.iinc 2 1, 3) := by decide +kernel
theorem dX1_sort_84 : decode cX1_sort 84 = .ok (.goto (-34), 3) := by decide +kernel
theorem dX1_sort_87 : decode cX1_sort 87 = .ok (.return_, 1) := by decide +kernel
theorem dX1_sign_0 : decode cX1_sign 0 = .ok (.ldc 142, 2) := by decide +kernel
theorem dX1_sign_2 : decode cX1_sign 2 = .ok (.istore_n 1, 1) := by decide +kernel
theorem dX1_sign_3 : decode cX1_sign 3 = .ok (.iconst 0, 1) := by decide +kernel
theorem dX1_sign_4 : decode cX1_sign 4 = .ok (.istore_n 2, 1) := by decide +kernel
theorem dX1_sign_5 : decode cX1_sign 5 = .ok (.iload_n 2, 1) := by decide +kernel
theorem dX1_sign_6 : decode cX1_sign 6 = .ok (.aload_n 0, 1) := by decide +kernel
theorem dX1_sign_7 : decode cX1_sign 7 = .ok (.getfield 68, 3) := by decide +kernel
theorem dX1_sign_10 : decode cX1_sign 10 = .ok (.if_icmp .ge 21, 3) := by decide +kernel
theorem dX1_sign_13 : decode cX1_sign 13 = .ok (.iload_n 1, 1) := by decide +kernel
theorem dX1_sign_14 : decode cX1_sign 14 = .ok (.aload_n 0, 1) := by decide +kernel
theorem dX1_sign_15 : decode cX1_sign 15 = .ok (.getfield 133, 3) := by decide +kernel
theorem dX1_sign_18 : decode cX1_sign 18 = .ok (.iload_n 2, 1) := by decide +kernel
theorem dX1_sign_19 : decode cX1_sign 19 = .ok (.iaload, 1) := by decide +kernel
theorem dX1_sign_20 : decode cX1_sign 20 = .ok (.ixor, 1) := by decide +kernel
theorem dX1_sign_21 : decode cX1_sign 21 = .ok (.ldc 143, 2) := by decide +kernel
theorem dX1_sign_23 : decode cX1_sign 23 = .ok (.imul, 1) := by decide +kernel
theorem dX1_sign_24 : decode cX1_sign 24 = .ok (.istore_n 1, 1) := by decide +kernel
theorem dX1_sign_25 : decode cX1_sign 25 = .ok (.iinc 2 1, 3) := by decide +kernel
theorem dX1_sign_28 : decode cX1_sign 28 = .ok (.goto (-23), 3) := by decide +kernel
theorem dX1_sign_31 : decode cX1_sign 31 = .ok (.aload_n 0, 1) := by decide +kernel
theorem dX1_sign_32 : decode cX1_sign 32 = .ok (.iconst 0, 1) := by decide +kernel
theorem dX1_sign_33 : decode cX1_sign 33 = .ok (.putfield 68, 3) := by decide +kernel
theorem dX1_sign_36 : decode cX1_sign 36 = .ok (.bipush 24, 2) := by decide +kernel
theorem dX1_sign_38 : decode cX1_sign 38 = .ok (.istore_n 2, 1) := by decide +kernel
theorem dX1_sign_39 : decode cX1_sign 39 = .ok (.iload_n 2, 1) := by decide +kernel
theorem dX1_sign_40 : decode cX1_sign 40 = .ok (.ifCond .lt 21, 3) := by decide +kernel
theorem dX1_sign_43 : decode cX1_sign 43 = .ok (.aload_n 0, 1) := by decide +kernel
theorem dX1_sign_44 : decode cX1_sign 44 = .ok (.iload_n 1, 1) := by decide +kernel
theorem dX1_sign_45 : decode cX1_sign 45 = .ok (.iload_n 2, 1) := by decide +kernel
theorem dX1_sign_46 : decode cX1_sign 46 = .ok (.iushr, 1) := by decide +kernel
theorem dX1_sign_47 : decode cX1_sign 47 = .ok (.sipush 255, 3) := by decide +kernel
theorem dX1_sign_50 : decode cX1_sign 50 = .ok (.iand, 1) := by decide +kernel
theorem dX1_sign_51 : decode cX1_sign 51 = .ok (.invokevirtual 116, 3) := by decide +kernel
theorem dX1_sign_54 : decode cX1_sign 54 = .ok (.pop, 1) := by decide +kernel
theorem dX1_sign_55 : decode cX1_sign 55 = .ok (.iinc 2 (-8), 3) := by decide +kernel
theorem dX1_sign_58 : decode cX1_sign 58 = .ok (.goto (-19), 3) := by decide +kernel
theorem dX1_sign_61 : decode cX1_sign 61 = .ok (.return_, 1) := by decide +kernel
theorem dX2_init_0 : decode cX2_init 0 = .ok (.aload_n 0, 1) := by decide +kernel
theorem dX2_init_1 : decode cX2_init 1 = .ok (.invokespecial 3, 3) := by decide +kernel
theorem dX2_init_4 : decode cX2_init 4 = .ok (.aload_n 0, 1) := by decide +kernel
theorem dX2_init_5 : decode cX2_init 5 = .ok (.bipush 30, 2) := by decide +kernel
theorem dX2_init_7 : decode cX2_init 7 = .ok (.newarray .int, 2) := by decide +kernel
theorem dX2_init_9 : decode cX2_init 9 = .ok (.putfield 9, 3) := by decide +kernel
theorem dX2_init_12 : decode cX2_init 12 = .ok (.aload_n 0, 1) := by decide +kernel
theorem dX2_init_13 : decode cX2_init 13 = .ok (.bipush 30, 2) := by decide +kernel
theorem dX2_init_15 : decode cX2_init 15 = .ok (.newarray .int, 2) := by decide +kernel
theorem dX2_init_17 : decode cX2_init 17 = .ok (.putfield 15, 3) := by decide +kernel
theorem dX2_init_20 : decode cX2_init 20 = .ok (.aload_n 0, 1) := by decide +kernel
theorem dX2_init_21 : decode cX2_init 21 = .ok (.getfield 9, 3) := by decide +kernel
theorem dX2_init_24 : decode cX2_init 24 = .ok (.iconst (-1), 1) := by decide +kernel
theorem dX2_init_25 : decode cX2_init 25 = .ok (.invokestatic 18, 3) := by decide +kernel
theorem dX2_init_28 : decode cX2_init 28 = .ok (.return_, 1) := by decide +kernel
theorem dX2_way_0 : decode cX2_way 0 = .ok (.iconst 0, 1) := by decide +kernel
theorem dX2_way_1 : decode cX2_way 1 = .ok (.istore_n 2, 1) := by decide +kernel
theorem dX2_way_2 : decode cX2_way 2 = .ok (.iload_n 1, 1) := by decide +kernel
theorem dX2_way_3 : decode cX2_way 3 = .ok (.istore_n 3, 1) := by decide +kernel
theorem dX2_way_4 : decode cX2_way 4 = .ok (.iconst 0, 1) := by decide +kernel
theorem dX2_way_5 : decode cX2_way 5 = .ok (.istore 4, 2) := by decide +kernel
theorem dX2_way_7 : decode cX2_way 7 = .ok (.iload 4, 2) := by decide +kernel
theorem dX2_way_9 : decode cX2_way 9 = .ok (.bipush 30, 2) := by decide +kernel
theorem dX2_way_11 : decode cX2_way 11 = .ok (.if_icmp .ge 35, 3) := by decide +kernel
theorem dX2_way_14 : decode cX2_way 14 = .ok (.iload_n 3, 1) := by decide +kernel
theorem dX2_way_15 : decode cX2_way 15 = .ok (.iconst (-1), 1) := by decide +kernel
theorem dX2_way_16 : decode cX2_way 16 = .ok (.if_icmp .eq 30, 3) := by decide +kernel
theorem dX2_way_19 : decode cX2_way 19 = .ok (.iload_n 2, 1) := by decide +kernel
theorem dX2_way_20 : decode cX2_way 20 = .ok (.iload_n 3, 1) := by decide +kernel
theorem dX2_way_21 : decode cX2_way 21 = .ok (.iushr, 1) := by decide +kernel
theorem dX2_way_22 : decode cX2_way 22 = .ok (.iconst 1, 1) := by decide +kernel
theorem dX2_way_23 : decode cX2_way 23 = .ok (.iand, 1) := by decide +kernel
theorem dX2_way_24 : decode cX2_way 24 = .ok (.ifCond .ne 22, 3) := by decide +kernel
theorem dX2_way_27 : decode cX2_way 27 = .ok (.iload_n 2, 1) := by decide +kernel
theorem dX2_way_28 : decode cX2_way 28 = .ok (.iconst 1, 1) := by decide +kernel
theorem dX2_way_29 : decode cX2_way 29 = .ok (.iload_n 3, 1) := by decide +kernel
theorem dX2_way_30 : decode cX2_way 30 = .ok (.ishl, 1) := by decide +kernel
theorem dX2_way_31 : decode cX2_way 31 = .ok (.ior, 1) := by decide +kernel
theorem dX2_way_32 : decode cX2_way 32 = .ok (.istore_n 2, 1) := by decide +kernel
theorem dX2_way_33 : decode cX2_way 33 = .ok (.aload_n 0, 1) := by decide +kernel
theorem dX2_way_34 : decode cX2_way 34 = .ok (.getfield 9, 3) := by decide +kernel
theorem dX2_way_37 : decode cX2_way 37 = .ok (.iload_n 3, 1) := by decide +kernel
theorem dX2_way_38 : decode cX2_way 38 = .ok (.iaload, 1) := by decide +kernel
theorem dX2_way_39 : decode cX2_way 39 = .ok (.istore_n 3, 1) := by decide +kernel
theorem dX2_way_40 : decode cX2_way 40 = .ok (.iinc 4 1, 3) := by decide +kernel
theorem dX2_way_43 : decode cX2_way 43 = .ok (.goto (-36), 3) := by decide +kernel
theorem dX2_way_46 : decode cX2_way 46 = .ok (.iload_n 2, 1) := by decide +kernel
theorem dX2_way_47 : decode cX2_way 47 = .ok (.ireturn, 1) := by decide +kernel
theorem dX2_ringStart_0 : decode cX2_ringStart 0 = .ok (.aload_n 0, 1) := by decide +kernel
theorem dX2_ringStart_1 : decode cX2_ringStart 1 = .ok (.iload_n 1, 1) := by decide +kernel
theorem dX2_ringStart_2 : decode cX2_ringStart 2 = .ok (.aload_n 0, 1) := by decide +kernel
theorem dX2_ringStart_3 : decode cX2_ringStart 3 = .ok (.iload_n 1, 1) := by decide +kernel
theorem dX2_ringStart_4 : decode cX2_ringStart 4 = .ok (.invokevirtual 24, 3) := by decide +kernel
theorem dX2_ringStart_7 : decode cX2_ringStart 7 = .ok (.invokestatic 28, 3) := by decide +kernel
theorem dX2_ringStart_10 : decode cX2_ringStart 10 = .ok (.invokevirtual 33, 3) := by decide +kernel
theorem dX2_ringStart_13 : decode cX2_ringStart 13 = .ok (.ireturn, 1) := by decide +kernel
theorem dX2_after_0 : decode cX2_after 0 = .ok (.iload_n 1, 1) := by decide +kernel
theorem dX2_after_1 : decode cX2_after 1 = .ok (.istore_n 3, 1) := by decide +kernel
theorem dX2_after_2 : decode cX2_after 2 = .ok (.iconst 0, 1) := by decide +kernel
theorem dX2_after_3 : decode cX2_after 3 = .ok (.istore 4, 2) := by decide +kernel
theorem dX2_after_5 : decode cX2_after 5 = .ok (.iload 4, 2) := by decide +kernel
theorem dX2_after_7 : decode cX2_after 7 = .ok (.iload_n 2, 1) := by decide +kernel
theorem dX2_after_8 : decode cX2_after 8 = .ok (.if_icmp .ge 21, 3) := by decide +kernel
theorem dX2_after_11 : decode cX2_after 11 = .ok (.iload_n 3, 1) := by decide +kernel
theorem dX2_after_12 : decode cX2_after 12 = .ok (.iconst (-1), 1) := by decide +kernel
theorem dX2_after_13 : decode cX2_after 13 = .ok (.if_icmp .eq 16, 3) := by decide +kernel
theorem dX2_after_16 : decode cX2_after 16 = .ok (.aload_n 0, 1) := by decide +kernel
theorem dX2_after_17 : decode cX2_after 17 = .ok (.getfield 9, 3) := by decide +kernel
theorem dX2_after_20 : decode cX2_after 20 = .ok (.iload_n 3, 1) := by decide +kernel
theorem dX2_after_21 : decode cX2_after 21 = .ok (.iaload, 1) := by decide +kernel
theorem dX2_after_22 : decode cX2_after 22 = .ok (.istore_n 3, 1) := by decide +kernel
theorem dX2_after_23 : decode cX2_after 23 = .ok (.iinc 4 1, 3) := by decide +kernel
theorem dX2_after_26 : decode cX2_after 26 = .ok (.goto (-21), 3) := by decide +kernel
theorem dX2_after_29 : decode cX2_after 29 = .ok (.iload_n 3, 1) := by decide +kernel
theorem dX2_after_30 : decode cX2_after 30 = .ok (.ireturn, 1) := by decide +kernel
theorem dX2_textsOn_0 : decode cX2_textsOn 0 = .ok (.iconst 0, 1) := by decide +kernel
theorem dX2_textsOn_1 : decode cX2_textsOn 1 = .ok (.istore_n 2, 1) := by decide +kernel
theorem dX2_textsOn_2 : decode cX2_textsOn 2 = .ok (.iconst 0, 1) := by decide +kernel
theorem dX2_textsOn_3 : decode cX2_textsOn 3 = .ok (.istore_n 3, 1) := by decide +kernel
theorem dX2_textsOn_4 : decode cX2_textsOn 4 = .ok (.iload_n 3, 1) := by decide +kernel
theorem dX2_textsOn_5 : decode cX2_textsOn 5 = .ok (.bipush 30, 2) := by decide +kernel
theorem dX2_textsOn_7 : decode cX2_textsOn 7 = .ok (.if_icmp .ge 38, 3) := by decide +kernel
theorem dX2_textsOn_10 : decode cX2_textsOn 10 = .ok (.iload_n 1, 1) := by decide +kernel
theorem dX2_textsOn_11 : decode cX2_textsOn 11 = .ok (.iload_n 3, 1) := by decide +kernel
theorem dX2_textsOn_12 : decode cX2_textsOn 12 = .ok (.iushr, 1) := by decide +kernel
theorem dX2_textsOn_13 : decode cX2_textsOn 13 = .ok (.iconst 1, 1) := by decide +kernel
theorem dX2_textsOn_14 : decode cX2_textsOn 14 = .ok (.iand, 1) := by decide +kernel
theorem dX2_textsOn_15 : decode cX2_textsOn 15 = .ok (.ifCond .eq 24, 3) := by decide +kernel
theorem dX2_textsOn_18 : decode cX2_textsOn 18 = .ok (.aload_n 0, 1) := by decide +kernel
theorem dX2_textsOn_19 : decode cX2_textsOn 19 = .ok (.getfield 9, 3) := by decide +kernel
theorem dX2_textsOn_22 : decode cX2_textsOn 22 = .ok (.iload_n 3, 1) := by decide +kernel
theorem dX2_textsOn_23 : decode cX2_textsOn 23 = .ok (.iaload, 1) := by decide +kernel
theorem dX2_textsOn_24 : decode cX2_textsOn 24 = .ok (.iconst (-1), 1) := by decide +kernel
theorem dX2_textsOn_25 : decode cX2_textsOn 25 = .ok (.if_icmp .eq 14, 3) := by decide +kernel
theorem dX2_textsOn_28 : decode cX2_textsOn 28 = .ok (.iload_n 2, 1) := by decide +kernel
theorem dX2_textsOn_29 : decode cX2_textsOn 29 = .ok (.iconst 1, 1) := by decide +kernel
theorem dX2_textsOn_30 : decode cX2_textsOn 30 = .ok (.aload_n 0, 1) := by decide +kernel
theorem dX2_textsOn_31 : decode cX2_textsOn 31 = .ok (.getfield 15, 3) := by decide +kernel
theorem dX2_textsOn_34 : decode cX2_textsOn 34 = .ok (.iload_n 3, 1) := by decide +kernel
theorem dX2_textsOn_35 : decode cX2_textsOn 35 = .ok (.iaload, 1) := by decide +kernel
theorem dX2_textsOn_36 : decode cX2_textsOn 36 = .ok (.ishl, 1) := by decide +kernel
theorem dX2_textsOn_37 : decode cX2_textsOn 37 = .ok (.ior, 1) := by decide +kernel
theorem dX2_textsOn_38 : decode cX2_textsOn 38 = .ok (.istore_n 2, 1) := by decide +kernel
theorem dX2_textsOn_39 : decode cX2_textsOn 39 = .ok (.iinc 3 1, 3) := by decide +kernel
theorem dX2_textsOn_42 : decode cX2_textsOn 42 = .ok (.goto (-38), 3) := by decide +kernel
theorem dX2_textsOn_45 : decode cX2_textsOn 45 = .ok (.iload_n 2, 1) := by decide +kernel
theorem dX2_textsOn_46 : decode cX2_textsOn 46 = .ok (.ireturn, 1) := by decide +kernel
theorem dX2_seeds_0 : decode cX2_seeds 0 = .ok (.iconst 0, 1) := by decide +kernel
theorem dX2_seeds_1 : decode cX2_seeds 1 = .ok (.istore_n 1, 1) := by decide +kernel
theorem dX2_seeds_2 : decode cX2_seeds 2 = .ok (.iconst 0, 1) := by decide +kernel
theorem dX2_seeds_3 : decode cX2_seeds 3 = .ok (.istore_n 2, 1) := by decide +kernel
theorem dX2_seeds_4 : decode cX2_seeds 4 = .ok (.iload_n 2, 1) := by decide +kernel
theorem dX2_seeds_5 : decode cX2_seeds 5 = .ok (.bipush 30, 2) := by decide +kernel
theorem dX2_seeds_7 : decode cX2_seeds 7 = .ok (.if_icmp .ge 27, 3) := by decide +kernel
theorem dX2_seeds_10 : decode cX2_seeds 10 = .ok (.iload_n 1, 1) := by decide +kernel
theorem dX2_seeds_11 : decode cX2_seeds 11 = .ok (.aload_n 0, 1) := by decide +kernel
theorem dX2_seeds_12 : decode cX2_seeds 12 = .ok (.getfield 9, 3) := by decide +kernel
theorem dX2_seeds_15 : decode cX2_seeds 15 = .ok (.iload_n 2, 1) := by decide +kernel
theorem dX2_seeds_16 : decode cX2_seeds 16 = .ok (.iaload, 1) := by decide +kernel
theorem dX2_seeds_17 : decode cX2_seeds 17 = .ok (.iconst (-1), 1) := by decide +kernel
theorem dX2_seeds_18 : decode cX2_seeds 18 = .ok (.if_icmp .ne 7, 3) := by decide +kernel
theorem dX2_seeds_21 : decode cX2_seeds 21 = .ok (.iconst 1, 1) := by decide +kernel
theorem dX2_seeds_22 : decode cX2_seeds 22 = .ok (.goto 4, 3) := by decide +kernel
theorem dX2_seeds_25 : decode cX2_seeds 25 = .ok (.iconst 0, 1) := by decide +kernel
theorem dX2_seeds_26 : decode cX2_seeds 26 = .ok (.iadd, 1) := by decide +kernel
theorem dX2_seeds_27 : decode cX2_seeds 27 = .ok (.istore_n 1, 1) := by decide +kernel
theorem dX2_seeds_28 : decode cX2_seeds 28 = .ok (.iinc 2 1, 3) := by decide +kernel
theorem dX2_seeds_31 : decode cX2_seeds 31 = .ok (.goto (-27), 3) := by decide +kernel
theorem dX2_seeds_34 : decode cX2_seeds 34 = .ok (.iload_n 1, 1) := by decide +kernel
theorem dX2_seeds_35 : decode cX2_seeds 35 = .ok (.ireturn, 1) := by decide +kernel
theorem dX3_init_0 : decode cX3_init 0 = .ok (.aload_n 0, 1) := by decide +kernel
theorem dX3_init_1 : decode cX3_init 1 = .ok (.invokespecial 3, 3) := by decide +kernel
theorem dX3_init_4 : decode cX3_init 4 = .ok (.aload_n 0, 1) := by decide +kernel
theorem dX3_init_5 : decode cX3_init 5 = .ok (.iconst 1, 1) := by decide +kernel
theorem dX3_init_6 : decode cX3_init 6 = .ok (.newarray .long, 2) := by decide +kernel
theorem dX3_init_8 : decode cX3_init 8 = .ok (.putfield 9, 3) := by decide +kernel
theorem dX3_init_11 : decode cX3_init 11 = .ok (.aload_n 0, 1) := by decide +kernel
theorem dX3_init_12 : decode cX3_init 12 = .ok (.bipush 16, 2) := by decide +kernel
theorem dX3_init_14 : decode cX3_init 14 = .ok (.newarray .int, 2) := by decide +kernel
theorem dX3_init_16 : decode cX3_init 16 = .ok (.putfield 15, 3) := by decide +kernel
theorem dX3_init_19 : decode cX3_init 19 = .ok (.aload_n 0, 1) := by decide +kernel
theorem dX3_init_20 : decode cX3_init 20 = .ok (.bipush 24, 2) := by decide +kernel
theorem dX3_init_22 : decode cX3_init 22 = .ok (.newarray .int, 2) := by decide +kernel
theorem dX3_init_24 : decode cX3_init 24 = .ok (.putfield 19, 3) := by decide +kernel
theorem dX3_init_27 : decode cX3_init 27 = .ok (.return_, 1) := by decide +kernel
theorem dX3_ordersOf_0 : decode cX3_ordersOf 0 = .ok (.aload_n 0, 1) := by decide +kernel
theorem dX3_ordersOf_1 : decode cX3_ordersOf 1 = .ok (.aload_n 1, 1) := by decide +kernel
theorem dX3_ordersOf_2 : decode cX3_ordersOf 2 = .ok (.iload_n 2, 1) := by decide +kernel
theorem dX3_ordersOf_3 : decode cX3_ordersOf 3 = .ok (.invokevirtual 22, 3) := by decide +kernel
theorem dX3_ordersOf_6 : decode cX3_ordersOf 6 = .ok (.istore_n 3, 1) := by decide +kernel
theorem dX3_ordersOf_7 : decode cX3_ordersOf 7 = .ok (.iconst 1, 1) := by decide +kernel
theorem dX3_ordersOf_8 : decode cX3_ordersOf 8 = .ok (.iload_n 3, 1) := by decide +kernel
theorem dX3_ordersOf_9 : decode cX3_ordersOf 9 = .ok (.ishl, 1) := by decide +kernel
theorem dX3_ordersOf_10 : decode cX3_ordersOf 10 = .ok (.istore 4, 2) := by decide +kernel
theorem dX3_ordersOf_12 : decode cX3_ordersOf 12 = .ok (.aload_n 0, 1) := by decide +kernel
theorem dX3_ordersOf_13 : decode cX3_ordersOf 13 = .ok (.getfield 9, 3) := by decide +kernel
theorem dX3_ordersOf_16 : decode cX3_ordersOf 16 = .ok (.arraylength, 1) := by decide +kernel
theorem dX3_ordersOf_17 : decode cX3_ordersOf 17 = .ok (.iload 4, 2) := by decide +kernel
theorem dX3_ordersOf_19 : decode cX3_ordersOf 19 = .ok (.if_icmp .ge 11, 3) := by decide +kernel
theorem dX3_ordersOf_22 : decode cX3_ordersOf 22 = .ok (.aload_n 0, 1) := by decide +kernel
theorem dX3_ordersOf_23 : decode cX3_ordersOf 23 = .ok (.iload 4, 2) := by decide +kernel
theorem dX3_ordersOf_25 : decode cX3_ordersOf 25 = .ok (.newarray .long, 2) := by decide +kernel
theorem dX3_ordersOf_27 : decode cX3_ordersOf 27 = .ok (.putfield 9, 3) := by decide +kernel
theorem dX3_ordersOf_30 : decode cX3_ordersOf 30 = .ok (.aload_n 0, 1) := by decide +kernel
theorem dX3_ordersOf_31 : decode cX3_ordersOf 31 = .ok (.getfield 9, 3) := by decide +kernel
theorem dX3_ordersOf_34 : decode cX3_ordersOf 34 = .ok (.lconst 0, 1) := by decide +kernel
theorem dX3_ordersOf_35 : decode cX3_ordersOf 35 = .ok (.invokestatic 26, 3) := by decide +kernel
theorem dX3_ordersOf_38 : decode cX3_ordersOf 38 = .ok (.aload_n 0, 1) := by decide +kernel
theorem dX3_ordersOf_39 : decode cX3_ordersOf 39 = .ok (.getfield 9, 3) := by decide +kernel
theorem dX3_ordersOf_42 : decode cX3_ordersOf 42 = .ok (.iconst 0, 1) := by decide +kernel
theorem dX3_ordersOf_43 : decode cX3_ordersOf 43 = .ok (.lconst 1, 1) := by decide +kernel
theorem dX3_ordersOf_44 : decode cX3_ordersOf 44 = .ok (.lastore, 1) := by decide +kernel
theorem dX3_ordersOf_45 : decode cX3_ordersOf 45 = .ok (.iconst 0, 1) := by decide +kernel
theorem dX3_ordersOf_46 : decode cX3_ordersOf 46 = .ok (.istore 5, 2) := by decide +kernel
theorem dX3_ordersOf_48 : decode cX3_ordersOf 48 = .ok (.iload 5, 2) := by decide +kernel
theorem dX3_ordersOf_50 : decode cX3_ordersOf 50 = .ok (.iload 4, 2) := by decide +kernel
theorem dX3_ordersOf_52 : decode cX3_ordersOf 52 = .ok (.if_icmp .ge 28, 3) := by decide +kernel
theorem dX3_ordersOf_55 : decode cX3_ordersOf 55 = .ok (.aload_n 0, 1) := by decide +kernel
theorem dX3_ordersOf_56 : decode cX3_ordersOf 56 = .ok (.getfield 9, 3) := by decide +kernel
theorem dX3_ordersOf_59 : decode cX3_ordersOf 59 = .ok (.iload 5, 2) := by decide +kernel
theorem dX3_ordersOf_61 : decode cX3_ordersOf 61 = .ok (.laload, 1) := by decide +kernel
theorem dX3_ordersOf_62 : decode cX3_ordersOf 62 = .ok (.lconst 0, 1) := by decide +kernel
theorem dX3_ordersOf_63 : decode cX3_ordersOf 63 = .ok (.lcmp, 1) := by decide +kernel
theorem dX3_ordersOf_64 : decode cX3_ordersOf 64 = .ok (.ifCond .eq 10, 3) := by decide +kernel
theorem dX3_ordersOf_67 : decode cX3_ordersOf 67 = .ok (.aload_n 0, 1) := by decide +kernel
theorem dX3_ordersOf_68 : decode cX3_ordersOf 68 = .ok (.iload 5, 2) := by decide +kernel
theorem dX3_ordersOf_70 : decode cX3_ordersOf 70 = .ok (.iload_n 3, 1) := by decide +kernel
theorem dX3_ordersOf_71 : decode cX3_ordersOf 71 = .ok (.invokevirtual 32, 3) := by decide +kernel
theorem dX3_ordersOf_74 : decode cX3_ordersOf 74 = .ok (.iinc 5 1, 3) := by decide +kernel
theorem dX3_ordersOf_77 : decode cX3_ordersOf 77 = .ok (.goto (-29), 3) := by decide +kernel
theorem dX3_ordersOf_80 : decode cX3_ordersOf 80 = .ok (.aload_n 0, 1) := by decide +kernel
theorem dX3_ordersOf_81 : decode cX3_ordersOf 81 = .ok (.getfield 9, 3) := by decide +kernel
theorem dX3_ordersOf_84 : decode cX3_ordersOf 84 = .ok (.iload 4, 2) := by decide +kernel
theorem dX3_ordersOf_86 : decode cX3_ordersOf 86 = .ok (.iconst 1, 1) := by decide +kernel
theorem dX3_ordersOf_87 : decode cX3_ordersOf 87 = .ok (.isub, 1) := by decide +kernel
theorem dX3_ordersOf_88 : decode cX3_ordersOf 88 = .ok (.laload, 1) := by decide +kernel
theorem dX3_ordersOf_89 : decode cX3_ordersOf 89 = .ok (.lreturn, 1) := by decide +kernel
theorem dX3_numberOthers_0 : decode cX3_numberOthers 0 = .ok (.iconst 0, 1) := by decide +kernel
theorem dX3_numberOthers_1 : decode cX3_numberOthers 1 = .ok (.istore_n 3, 1) := by decide +kernel
theorem dX3_numberOthers_2 : decode cX3_numberOthers 2 = .ok (.iconst 0, 1) := by decide +kernel
theorem dX3_numberOthers_3 : decode cX3_numberOthers 3 = .ok (.istore 4, 2) := by decide +kernel
theorem dX3_numberOthers_5 : decode cX3_numberOthers 5 = .ok (.iload 4, 2) := by decide +kernel
theorem dX3_numberOthers_7 : decode cX3_numberOthers 7 = .ok (.iload_n 2, 1) := by decide +kernel
theorem dX3_numberOthers_8 : decode cX3_numberOthers 8 = .ok (.if_icmp .ge 53, 3) := by decide +kernel
theorem dX3_numberOthers_11 : decode cX3_numberOthers 11 = .ok (.aload_n 1, 1) := by decide +kernel
theorem dX3_numberOthers_12 : decode cX3_numberOthers 12 = .ok (.getfield 36, 3) := by decide +kernel
theorem dX3_numberOthers_15 : decode cX3_numberOthers 15 = .ok (.iload_n 2, 1) := by decide +kernel
theorem dX3_numberOthers_16 : decode cX3_numberOthers 16 = .ok (.iaload, 1) := by decide +kernel
theorem dX3_numberOthers_17 : decode cX3_numberOthers 17 = .ok (.iload 4, 2) := by decide +kernel
theorem dX3_numberOthers_19 : decode cX3_numberOthers 19 = .ok (.iushr, 1) := by decide +kernel
theorem dX3_numberOthers_20 : decode cX3_numberOthers 20 = .ok (.iconst 1, 1) := by decide +kernel
theorem dX3_numberOthers_21 : decode cX3_numberOthers 21 = .ok (.iand, 1) := by decide +kernel
theorem dX3_numberOthers_22 : decode cX3_numberOthers 22 = .ok (.ifCond .eq 33, 3) := by decide +kernel
theorem dX3_numberOthers_25 : decode cX3_numberOthers 25 = .ok (.iload_n 3, 1) := by decide +kernel
theorem dX3_numberOthers_26 : decode cX3_numberOthers 26 = .ok (.bipush 15, 2) := by decide +kernel
theorem dX3_numberOthers_28 : decode cX3_numberOthers 28 = .ok (.if_icmp .ge 27, 3) := by decide +kernel
theorem dX3_numberOthers_31 : decode cX3_numberOthers 31 = .ok (.aload_n 0, 1) := by decide +kernel
theorem dX3_numberOthers_32 : decode cX3_numberOthers 32 = .ok (.getfield 19, 3) := by decide +kernel
theorem dX3_numberOthers_35 : decode cX3_numberOthers 35 = .ok (.iload 4, 2) := by decide +kernel
theorem dX3_numberOthers_37 : decode cX3_numberOthers 37 = .ok (.iload_n 3, 1) := by decide +kernel
theorem dX3_numberOthers_38 : decode cX3_numberOthers 38 = .ok (.iastore, 1) := by decide +kernel
theorem dX3_numberOthers_39 : decode cX3_numberOthers 39 = .ok (.aload_n 0, 1) := by decide +kernel
theorem dX3_numberOthers_40 : decode cX3_numberOthers 40 = .ok (.getfield 15, 3) := by decide +kernel
theorem dX3_numberOthers_43 : decode cX3_numberOthers 43 = .ok (.iload_n 3, 1) := by decide +kernel
theorem dX3_numberOthers_44 : decode cX3_numberOthers 44 = .ok (.aload_n 0, 1) := by decide +kernel
theorem dX3_numberOthers_45 : decode cX3_numberOthers 45 = .ok (.aload_n 1, 1) := by decide +kernel
theorem dX3_numberOthers_46 : decode cX3_numberOthers 46 = .ok (.iload 4, 2) := by decide +kernel
theorem dX3_numberOthers_48 : decode cX3_numberOthers 48 = .ok (.invokevirtual 41, 3) := by decide +kernel
theorem dX3_numberOthers_51 : decode cX3_numberOthers 51 = .ok (.iastore, 1) := by decide +kernel
theorem dX3_numberOthers_52 : decode cX3_numberOthers 52 = .ok (.iinc 3 1, 3) := by decide +kernel
theorem dX3_numberOthers_55 : decode cX3_numberOthers 55 = .ok (.iinc 4 1, 3) := by decide +kernel
theorem dX3_numberOthers_58 : decode cX3_numberOthers 58 = .ok (.goto (-53), 3) := by decide +kernel
theorem dX3_numberOthers_61 : decode cX3_numberOthers 61 = .ok (.iload_n 3, 1) := by decide +kernel
theorem dX3_numberOthers_62 : decode cX3_numberOthers 62 = .ok (.ireturn, 1) := by decide +kernel
theorem dX3_numberedInputs_0 : decode cX3_numberedInputs 0 = .ok (.iconst 0, 1) := by decide +kernel
theorem dX3_numberedInputs_1 : decode cX3_numberedInputs 1 = .ok (.istore_n 3, 1) := by decide +kernel
theorem dX3_numberedInputs_2 : decode cX3_numberedInputs 2 = .ok (.iconst 0, 1) := by decide +kernel
theorem dX3_numberedInputs_3 : decode cX3_numberedInputs 3 = .ok (.istore 4, 2) := by decide +kernel
theorem dX3_numberedInputs_5 : decode cX3_numberedInputs 5 = .ok (.iload 4, 2) := by decide +kernel
theorem dX3_numberedInputs_7 : decode cX3_numberedInputs 7 = .ok (.aload_n 1, 1) := by decide +kernel
theorem dX3_numberedInputs_8 : decode cX3_numberedInputs 8 = .ok (.getfield 44, 3) := by decide +kernel
theorem dX3_numberedInputs_11 : decode cX3_numberedInputs 11 = .ok (.iload_n 2, 1) := by decide +kernel
theorem dX3_numberedInputs_12 : decode cX3_numberedInputs 12 = .ok (.iaload, 1) := by decide +kernel
theorem dX3_numberedInputs_13 : decode cX3_numberedInputs 13 = .ok (.if_icmp .ge 40, 3) := by decide +kernel
theorem dX3_numberedInputs_16 : decode cX3_numberedInputs 16 = .ok (.aload_n 1, 1) := by decide +kernel
theorem dX3_numberedInputs_17 : decode cX3_numberedInputs 17 = .ok (.iload_n 2, 1) := by decide +kernel
theorem dX3_numberedInputs_18 : decode cX3_numberedInputs 18 = .ok (.iload 4, 2) := by decide +kernel
theorem dX3_numberedInputs_20 : decode cX3_numberedInputs 20 = .ok (.invokevirtual 47, 3) := by decide +kernel
theorem dX3_numberedInputs_23 : decode cX3_numberedInputs 23 = .ok (.istore 5, 2) := by decide +kernel
theorem dX3_numberedInputs_25 : decode cX3_numberedInputs 25 = .ok (.iload 5, 2) := by decide +kernel
theorem dX3_numberedInputs_27 : decode cX3_numberedInputs 27 = .ok (.bipush 100, 2) := by decide +kernel
theorem dX3_numberedInputs_29 : decode cX3_numberedInputs 29 = .ok (.if_icmp .lt 18, 3) := by decide +kernel
theorem dX3_numberedInputs_32 : decode cX3_numberedInputs 32 = .ok (.iload_n 3, 1) := by decide +kernel
theorem dX3_numberedInputs_33 : decode cX3_numberedInputs 33 = .ok (.iconst 1, 1) := by decide +kernel
theorem dX3_numberedInputs_34 : decode cX3_numberedInputs 34 = .ok (.aload_n 0, 1) := by decide +kernel
theorem dX3_numberedInputs_35 : decode cX3_numberedInputs 35 = .ok (.getfield 19, 3) := by decide +kernel
theorem dX3_numberedInputs_38 : decode cX3_numberedInputs 38 = .ok (.iload 5, 2) := by decide +kernel
theorem dX3_numberedInputs_40 : decode cX3_numberedInputs 40 = .ok (.bipush 100, 2) := by decide +kernel
theorem dX3_numberedInputs_42 : decode cX3_numberedInputs 42 = .ok (.isub, 1) := by decide +kernel
theorem dX3_numberedInputs_43 : decode cX3_numberedInputs 43 = .ok (.iaload, 1) := by decide +kernel
theorem dX3_numberedInputs_44 : decode cX3_numberedInputs 44 = .ok (.ishl, 1) := by decide +kernel
theorem dX3_numberedInputs_45 : decode cX3_numberedInputs 45 = .ok (.ior, 1) := by decide +kernel
theorem dX3_numberedInputs_46 : decode cX3_numberedInputs 46 = .ok (.istore_n 3, 1) := by decide +kernel
theorem dX3_numberedInputs_47 : decode cX3_numberedInputs 47 = .ok (.iinc 4 1, 3) := by decide +kernel
theorem dX3_numberedInputs_50 : decode cX3_numberedInputs 50 = .ok (.goto (-45), 3) := by decide +kernel
theorem dX3_numberedInputs_53 : decode cX3_numberedInputs 53 = .ok (.iload_n 3, 1) := by decide +kernel
theorem dX3_numberedInputs_54 : decode cX3_numberedInputs 54 = .ok (.ireturn, 1) := by decide +kernel
theorem dX3_doOneMore_0 : decode cX3_doOneMore 0 = .ok (.iconst 0, 1) := by decide +kernel
theorem dX3_doOneMore_1 : decode cX3_doOneMore 1 = .ok (.istore_n 3, 1) := by decide +kernel
theorem dX3_doOneMore_2 : decode cX3_doOneMore 2 = .ok (.iload_n 3, 1) := by decide +kernel
theorem dX3_doOneMore_3 : decode cX3_doOneMore 3 = .ok (.iload_n 2, 1) := by decide +kernel
theorem dX3_doOneMore_4 : decode cX3_doOneMore 4 = .ok (.if_icmp .ge 49, 3) := by decide +kernel
theorem dX3_doOneMore_7 : decode cX3_doOneMore 7 = .ok (.iload_n 1, 1) := by decide +kernel
theorem dX3_doOneMore_8 : decode cX3_doOneMore 8 = .ok (.iload_n 3, 1) := by decide +kernel
theorem dX3_doOneMore_9 : decode cX3_doOneMore 9 = .ok (.iushr, 1) := by decide +kernel
theorem dX3_doOneMore_10 : decode cX3_doOneMore 10 = .ok (.iconst 1, 1) := by decide +kernel
theorem dX3_doOneMore_11 : decode cX3_doOneMore 11 = .ok (.iand, 1) := by decide +kernel
theorem dX3_doOneMore_12 : decode cX3_doOneMore 12 = .ok (.ifCond .ne 35, 3) := by decide +kernel
theorem dX3_doOneMore_15 : decode cX3_doOneMore 15 = .ok (.aload_n 0, 1) := by decide +kernel
theorem dX3_doOneMore_16 : decode cX3_doOneMore 16 = .ok (.getfield 15, 3) := by decide +kernel
theorem dX3_doOneMore_19 : decode cX3_doOneMore 19 = .ok (.iload_n 3, 1) := by decide +kernel
theorem dX3_doOneMore_20 : decode cX3_doOneMore 20 = .ok (.iaload, 1) := by decide +kernel
theorem dX3_doOneMore_21 : decode cX3_doOneMore 21 = .ok (.iload_n 1, 1) := by decide +kernel
theorem dX3_doOneMore_22 : decode cX3_doOneMore 22 = .ok (.iconst (-1), 1) := by decide +kernel
theorem dX3_doOneMore_23 : decode cX3_doOneMore 23 = .ok (.ixor, 1) := by decide +kernel
theorem dX3_doOneMore_24 : decode cX3_doOneMore 24 = .ok (.iand, 1) := by decide +kernel
theorem dX3_doOneMore_25 : decode cX3_doOneMore 25 = .ok (.ifCond .ne 22, 3) := by decide +kernel
theorem dX3_doOneMore_28 : decode cX3_doOneMore 28 = .ok (.aload_n 0, 1) := by decide +kernel
theorem dX3_doOneMore_29 : decode cX3_doOneMore 29 = .ok (.getfield 9, 3) := by decide +kernel
theorem dX3_doOneMore_32 : decode cX3_doOneMore 32 = .ok (.iload_n 1, 1) := by decide +kernel
theorem dX3_doOneMore_33 : decode cX3_doOneMore 33 = .ok (.iconst 1, 1) := by decide +kernel
theorem dX3_doOneMore_34 : decode cX3_doOneMore 34 = .ok (.iload_n 3, 1) := by decide +kernel
theorem dX3_doOneMore_35 : decode cX3_doOneMore 35 = .ok (.ishl, 1) := by decide +kernel
theorem dX3_doOneMore_36 : decode cX3_doOneMore 36 = .ok (.ior, 1) := by decide +kernel
theorem dX3_doOneMore_37 : decode cX3_doOneMore 37 = .ok (.dup2, 1) := by decide +kernel
theorem dX3_doOneMore_38 : decode cX3_doOneMore 38 = .ok (.laload, 1) := by decide +kernel
theorem dX3_doOneMore_39 : decode cX3_doOneMore 39 = .ok (.aload_n 0, 1) := by decide +kernel
theorem dX3_doOneMore_40 : decode cX3_doOneMore 40 = .ok (.getfield 9, 3) := by decide +kernel
theorem dX3_doOneMore_43 : decode cX3_doOneMore 43 = .ok (.iload_n 1, 1) := by decide +kernel
theorem dX3_doOneMore_44 : decode cX3_doOneMore 44 = .ok (.laload, 1) := by decide +kernel
theorem dX3_doOneMore_45 : decode cX3_doOneMore 45 = .ok (.ladd, 1) := by decide +kernel
theorem dX3_doOneMore_46 : decode cX3_doOneMore 46 = .ok (.lastore, 1) := by decide +kernel
theorem dX3_doOneMore_47 : decode cX3_doOneMore 47 = .ok (.iinc 3 1, 3) := by decide +kernel
theorem dX3_doOneMore_50 : decode cX3_doOneMore 50 = .ok (.goto (-48), 3) := by decide +kernel
theorem dX3_doOneMore_53 : decode cX3_doOneMore 53 = .ok (.return_, 1) := by decide +kernel
theorem dX4_init_0 : decode cX4_init 0 = .ok (.aload_n 0, 1) := by decide +kernel
theorem dX4_init_1 : decode cX4_init 1 = .ok (.invokespecial 3, 3) := by decide +kernel
theorem dX4_init_4 : decode cX4_init 4 = .ok (.aload_n 0, 1) := by decide +kernel
theorem dX4_init_5 : decode cX4_init 5 = .ok (.bipush 24, 2) := by decide +kernel
theorem dX4_init_7 : decode cX4_init 7 = .ok (.newarray .int, 2) := by decide +kernel
theorem dX4_init_9 : decode cX4_init 9 = .ok (.putfield 9, 3) := by decide +kernel
theorem dX4_init_12 : decode cX4_init 12 = .ok (.aload_n 0, 1) := by decide +kernel
theorem dX4_init_13 : decode cX4_init 13 = .ok (.bipush 24, 2) := by decide +kernel
theorem dX4_init_15 : decode cX4_init 15 = .ok (.newarray .int, 2) := by decide +kernel
theorem dX4_init_17 : decode cX4_init 17 = .ok (.putfield 15, 3) := by decide +kernel
theorem dX4_init_20 : decode cX4_init 20 = .ok (.aload_n 0, 1) := by decide +kernel
theorem dX4_init_21 : decode cX4_init 21 = .ok (.bipush 24, 2) := by decide +kernel
theorem dX4_init_23 : decode cX4_init 23 = .ok (.newarray .int, 2) := by decide +kernel
theorem dX4_init_25 : decode cX4_init 25 = .ok (.putfield 18, 3) := by decide +kernel
theorem dX4_init_28 : decode cX4_init 28 = .ok (.aload_n 0, 1) := by decide +kernel
theorem dX4_init_29 : decode cX4_init 29 = .ok (.bipush 96, 2) := by decide +kernel
theorem dX4_init_31 : decode cX4_init 31 = .ok (.newarray .int, 2) := by decide +kernel
theorem dX4_init_33 : decode cX4_init 33 = .ok (.putfield 21, 3) := by decide +kernel
theorem dX4_init_36 : decode cX4_init 36 = .ok (.aload_n 0, 1) := by decide +kernel
theorem dX4_init_37 : decode cX4_init 37 = .ok (.bipush 24, 2) := by decide +kernel
theorem dX4_init_39 : decode cX4_init 39 = .ok (.newarray .int, 2) := by decide +kernel
theorem dX4_init_41 : decode cX4_init 41 = .ok (.putfield 24, 3) := by decide +kernel
theorem dX4_init_44 : decode cX4_init 44 = .ok (.aload_n 0, 1) := by decide +kernel
theorem dX4_init_45 : decode cX4_init 45 = .ok (.bipush 24, 2) := by decide +kernel
theorem dX4_init_47 : decode cX4_init 47 = .ok (.newarray .int, 2) := by decide +kernel
theorem dX4_init_49 : decode cX4_init 49 = .ok (.putfield 27, 3) := by decide +kernel
theorem dX4_init_52 : decode cX4_init 52 = .ok (.aload_n 0, 1) := by decide +kernel
theorem dX4_init_53 : decode cX4_init 53 = .ok (.bipush 24, 2) := by decide +kernel
theorem dX4_init_55 : decode cX4_init 55 = .ok (.newarray .int, 2) := by decide +kernel
theorem dX4_init_57 : decode cX4_init 57 = .ok (.putfield 30, 3) := by decide +kernel
theorem dX4_init_60 : decode cX4_init 60 = .ok (.aload_n 0, 1) := by decide +kernel
theorem dX4_init_61 : decode cX4_init 61 = .ok (.bipush 24, 2) := by decide +kernel
theorem dX4_init_63 : decode cX4_init 63 = .ok (.newarray .int, 2) := by decide +kernel
theorem dX4_init_65 : decode cX4_init 65 = .ok (.putfield 33, 3) := by decide +kernel
theorem dX4_init_68 : decode cX4_init 68 = .ok (.return_, 1) := by decide +kernel
theorem dX4_addStep_0 : decode cX4_addStep 0 = .ok (.aload_n 0, 1) := by decide +kernel
theorem dX4_addStep_1 : decode cX4_addStep 1 = .ok (.getfield 36, 3) := by decide +kernel
theorem dX4_addStep_4 : decode cX4_addStep 4 = .ok (.istore 4, 2) := by decide +kernel
theorem dX4_addStep_6 : decode cX4_addStep 6 = .ok (.aload_n 0, 1) := by decide +kernel
theorem dX4_addStep_7 : decode cX4_addStep 7 = .ok (.getfield 9, 3) := by decide +kernel
theorem dX4_addStep_10 : decode cX4_addStep 10 = .ok (.iload 4, 2) := by decide +kernel
theorem dX4_addStep_12 : decode cX4_addStep 12 = .ok (.iload_n 1, 1) := by decide +kernel
theorem dX4_addStep_13 : decode cX4_addStep 13 = .ok (.iastore, 1) := by decide +kernel
theorem dX4_addStep_14 : decode cX4_addStep 14 = .ok (.aload_n 0, 1) := by decide +kernel
theorem dX4_addStep_15 : decode cX4_addStep 15 = .ok (.getfield 15, 3) := by decide +kernel
theorem dX4_addStep_18 : decode cX4_addStep 18 = .ok (.iload 4, 2) := by decide +kernel
theorem dX4_addStep_20 : decode cX4_addStep 20 = .ok (.iload_n 2, 1) := by decide +kernel
theorem dX4_addStep_21 : decode cX4_addStep 21 = .ok (.iastore, 1) := by decide +kernel
theorem dX4_addStep_22 : decode cX4_addStep 22 = .ok (.aload_n 0, 1) := by decide +kernel
theorem dX4_addStep_23 : decode cX4_addStep 23 = .ok (.getfield 18, 3) := by decide +kernel
theorem dX4_addStep_26 : decode cX4_addStep 26 = .ok (.iload 4, 2) := by decide +kernel
theorem dX4_addStep_28 : decode cX4_addStep 28 = .ok (.iload_n 3, 1) := by decide +kernel
theorem dX4_addStep_29 : decode cX4_addStep 29 = .ok (.iastore, 1) := by decide +kernel
theorem dX4_addStep_30 : decode cX4_addStep 30 = .ok (.aload_n 0, 1) := by decide +kernel
theorem dX4_addStep_31 : decode cX4_addStep 31 = .ok (.getfield 27, 3) := by decide +kernel
theorem dX4_addStep_34 : decode cX4_addStep 34 = .ok (.iload 4, 2) := by decide +kernel
theorem dX4_addStep_36 : decode cX4_addStep 36 = .ok (.iconst 1, 1) := by decide +kernel
theorem dX4_addStep_37 : decode cX4_addStep 37 = .ok (.iload 4, 2) := by decide +kernel
theorem dX4_addStep_39 : decode cX4_addStep 39 = .ok (.ishl, 1) := by decide +kernel
theorem dX4_addStep_40 : decode cX4_addStep 40 = .ok (.iastore, 1) := by decide +kernel
theorem dX4_addStep_41 : decode cX4_addStep 41 = .ok (.aload_n 0, 1) := by decide +kernel
theorem dX4_addStep_42 : decode cX4_addStep 42 = .ok (.getfield 33, 3) := by decide +kernel
theorem dX4_addStep_45 : decode cX4_addStep 45 = .ok (.iload 4, 2) := by decide +kernel
theorem dX4_addStep_47 : decode cX4_addStep 47 = .ok (.aload_n 0, 1) := by decide +kernel
theorem dX4_addStep_48 : decode cX4_addStep 48 = .ok (.iload 4, 2) := by decide +kernel
theorem dX4_addStep_50 : decode cX4_addStep 50 = .ok (.invokevirtual 40, 3) := by decide +kernel
theorem dX4_addStep_53 : decode cX4_addStep 53 = .ok (.iastore, 1) := by decide +kernel
theorem dX4_addStep_54 : decode cX4_addStep 54 = .ok (.aload_n 0, 1) := by decide +kernel
theorem dX4_addStep_55 : decode cX4_addStep 55 = .ok (.dup, 1) := by decide +kernel
theorem dX4_addStep_56 : decode cX4_addStep 56 = .ok (.getfield 36, 3) := by decide +kernel
theorem dX4_addStep_59 : decode cX4_addStep 59 = .ok (.iconst 1, 1) := by decide +kernel
theorem dX4_addStep_60 : decode cX4_addStep 60 = .ok (.iadd, 1) := by decide +kernel
theorem dX4_addStep_61 : decode cX4_addStep 61 = .ok (.putfield 36, 3) := by decide +kernel
theorem dX4_addStep_64 : decode cX4_addStep 64 = .ok (.iload 4, 2) := by decide +kernel
theorem dX4_addStep_66 : decode cX4_addStep 66 = .ok (.ireturn, 1) := by decide +kernel
theorem dX4_addInput_0 : decode cX4_addInput 0 = .ok (.aload_n 0, 1) := by decide +kernel
theorem dX4_addInput_1 : decode cX4_addInput 1 = .ok (.getfield 21, 3) := by decide +kernel
theorem dX4_addInput_4 : decode cX4_addInput 4 = .ok (.iload_n 1, 1) := by decide +kernel
theorem dX4_addInput_5 : decode cX4_addInput 5 = .ok (.iconst 4, 1) := by decide +kernel
theorem dX4_addInput_6 : decode cX4_addInput 6 = .ok (.imul, 1) := by decide +kernel
theorem dX4_addInput_7 : decode cX4_addInput 7 = .ok (.aload_n 0, 1) := by decide +kernel
theorem dX4_addInput_8 : decode cX4_addInput 8 = .ok (.getfield 24, 3) := by decide +kernel
theorem dX4_addInput_11 : decode cX4_addInput 11 = .ok (.iload_n 1, 1) := by decide +kernel
theorem dX4_addInput_12 : decode cX4_addInput 12 = .ok (.iaload, 1) := by decide +kernel
theorem dX4_addInput_13 : decode cX4_addInput 13 = .ok (.iadd, 1) := by decide +kernel
theorem dX4_addInput_14 : decode cX4_addInput 14 = .ok (.iload_n 2, 1) := by decide +kernel
theorem dX4_addInput_15 : decode cX4_addInput 15 = .ok (.iastore, 1) := by decide +kernel
theorem dX4_addInput_16 : decode cX4_addInput 16 = .ok (.aload_n 0, 1) := by decide +kernel
theorem dX4_addInput_17 : decode cX4_addInput 17 = .ok (.getfield 24, 3) := by decide +kernel
theorem dX4_addInput_20 : decode cX4_addInput 20 = .ok (.iload_n 1, 1) := by decide +kernel
theorem dX4_addInput_21 : decode cX4_addInput 21 = .ok (.dup2, 1) := by decide +kernel
theorem dX4_addInput_22 : decode cX4_addInput 22 = .ok (.iaload, 1) := by decide +kernel
theorem dX4_addInput_23 : decode cX4_addInput 23 = .ok (.iconst 1, 1) := by decide +kernel
theorem dX4_addInput_24 : decode cX4_addInput 24 = .ok (.iadd, 1) := by decide +kernel
theorem dX4_addInput_25 : decode cX4_addInput 25 = .ok (.iastore, 1) := by decide +kernel
theorem dX4_addInput_26 : decode cX4_addInput 26 = .ok (.iload_n 2, 1) := by decide +kernel
theorem dX4_addInput_27 : decode cX4_addInput 27 = .ok (.bipush 100, 2) := by decide +kernel
theorem dX4_addInput_29 : decode cX4_addInput 29 = .ok (.if_icmp .ge 18, 3) := by decide +kernel
theorem dX4_addInput_32 : decode cX4_addInput 32 = .ok (.aload_n 0, 1) := by decide +kernel
theorem dX4_addInput_33 : decode cX4_addInput 33 = .ok (.getfield 30, 3) := by decide +kernel
theorem dX4_addInput_36 : decode cX4_addInput 36 = .ok (.iload_n 1, 1) := by decide +kernel
theorem dX4_addInput_37 : decode cX4_addInput 37 = .ok (.dup2, 1) := by decide +kernel
theorem dX4_addInput_38 : decode cX4_addInput 38 = .ok (.iaload, 1) := by decide +kernel
theorem dX4_addInput_39 : decode cX4_addInput 39 = .ok (.iconst 1, 1) := by decide +kernel
theorem dX4_addInput_40 : decode cX4_addInput 40 = .ok (.iload_n 2, 1) := by decide +kernel
theorem dX4_addInput_41 : decode cX4_addInput 41 = .ok (.ishl, 1) := by decide +kernel
theorem dX4_addInput_42 : decode cX4_addInput 42 = .ok (.ior, 1) := by decide +kernel
theorem dX4_addInput_43 : decode cX4_addInput 43 = .ok (.iastore, 1) := by decide +kernel
theorem dX4_addInput_44 : decode cX4_addInput 44 = .ok (.goto 65, 3) := by decide +kernel
theorem dX4_addInput_47 : decode cX4_addInput 47 = .ok (.iload_n 2, 1) := by decide +kernel
theorem dX4_addInput_48 : decode cX4_addInput 48 = .ok (.bipush 100, 2) := by decide +kernel
theorem dX4_addInput_50 : decode cX4_addInput 50 = .ok (.isub, 1) := by decide +kernel
theorem dX4_addInput_51 : decode cX4_addInput 51 = .ok (.istore_n 3, 1) := by decide +kernel
theorem dX4_addInput_52 : decode cX4_addInput 52 = .ok (.aload_n 0, 1) := by decide +kernel
theorem dX4_addInput_53 : decode cX4_addInput 53 = .ok (.dup, 1) := by decide +kernel
theorem dX4_addInput_54 : decode cX4_addInput 54 = .ok (.getfield 44, 3) := by decide +kernel
theorem dX4_addInput_57 : decode cX4_addInput 57 = .ok (.iconst 1, 1) := by decide +kernel
theorem dX4_addInput_58 : decode cX4_addInput 58 = .ok (.iload_n 3, 1) := by decide +kernel
theorem dX4_addInput_59 : decode cX4_addInput 59 = .ok (.ishl, 1) := by decide +kernel
theorem dX4_addInput_60 : decode cX4_addInput 60 = .ok (.ior, 1) := by decide +kernel
theorem dX4_addInput_61 : decode cX4_addInput 61 = .ok (.putfield 44, 3) := by decide +kernel
theorem dX4_addInput_64 : decode cX4_addInput 64 = .ok (.aload_n 0, 1) := by decide +kernel
theorem dX4_addInput_65 : decode cX4_addInput 65 = .ok (.getfield 27, 3) := by decide +kernel
theorem dX4_addInput_68 : decode cX4_addInput 68 = .ok (.iload_n 1, 1) := by decide +kernel
theorem dX4_addInput_69 : decode cX4_addInput 69 = .ok (.dup2, 1) := by decide +kernel
theorem dX4_addInput_70 : decode cX4_addInput 70 = .ok (.iaload, 1) := by decide +kernel
theorem dX4_addInput_71 : decode cX4_addInput 71 = .ok (.aload_n 0, 1) := by decide +kernel
theorem dX4_addInput_72 : decode cX4_addInput 72 = .ok (.getfield 27, 3) := by decide +kernel
theorem dX4_addInput_75 : decode cX4_addInput 75 = .ok (.iload_n 3, 1) := by decide +kernel
theorem dX4_addInput_76 : decode cX4_addInput 76 = .ok (.iaload, 1) := by decide +kernel
theorem dX4_addInput_77 : decode cX4_addInput 77 = .ok (.ior, 1) := by decide +kernel
theorem dX4_addInput_78 : decode cX4_addInput 78 = .ok (.iastore, 1) := by decide +kernel
theorem dX4_addInput_79 : decode cX4_addInput 79 = .ok (.aload_n 0, 1) := by decide +kernel
theorem dX4_addInput_80 : decode cX4_addInput 80 = .ok (.getfield 30, 3) := by decide +kernel
theorem dX4_addInput_83 : decode cX4_addInput 83 = .ok (.iload_n 1, 1) := by decide +kernel
theorem dX4_addInput_84 : decode cX4_addInput 84 = .ok (.dup2, 1) := by decide +kernel
theorem dX4_addInput_85 : decode cX4_addInput 85 = .ok (.iaload, 1) := by decide +kernel
theorem dX4_addInput_86 : decode cX4_addInput 86 = .ok (.aload_n 0, 1) := by decide +kernel
theorem dX4_addInput_87 : decode cX4_addInput 87 = .ok (.getfield 30, 3) := by decide +kernel
theorem dX4_addInput_90 : decode cX4_addInput 90 = .ok (.iload_n 3, 1) := by decide +kernel
theorem dX4_addInput_91 : decode cX4_addInput 91 = .ok (.iaload, 1) := by decide +kernel
theorem dX4_addInput_92 : decode cX4_addInput 92 = .ok (.ior, 1) := by decide +kernel
theorem dX4_addInput_93 : decode cX4_addInput 93 = .ok (.iastore, 1) := by decide +kernel
theorem dX4_addInput_94 : decode cX4_addInput 94 = .ok (.aload_n 0, 1) := by decide +kernel
theorem dX4_addInput_95 : decode cX4_addInput 95 = .ok (.getfield 33, 3) := by decide +kernel
theorem dX4_addInput_98 : decode cX4_addInput 98 = .ok (.iload_n 1, 1) := by decide +kernel
theorem dX4_addInput_99 : decode cX4_addInput 99 = .ok (.dup2, 1) := by decide +kernel
theorem dX4_addInput_100 : decode cX4_addInput 100 = .ok (.iaload, 1) := by decide +kernel
theorem dX4_addInput_101 : decode cX4_addInput 101 = .ok (.aload_n 0, 1) := by decide +kernel
theorem dX4_addInput_102 : decode cX4_addInput 102 = .ok (.getfield 33, 3) := by decide +kernel
theorem dX4_addInput_105 : decode cX4_addInput 105 = .ok (.iload_n 3, 1) := by decide +kernel
theorem dX4_addInput_106 : decode cX4_addInput 106 = .ok (.iaload, 1) := by decide +kernel
theorem dX4_addInput_107 : decode cX4_addInput 107 = .ok (.ior, 1) := by decide +kernel
theorem dX4_addInput_108 : decode cX4_addInput 108 = .ok (.iastore, 1) := by decide +kernel
theorem dX4_addInput_109 : decode cX4_addInput 109 = .ok (.aload_n 0, 1) := by decide +kernel
theorem dX4_addInput_110 : decode cX4_addInput 110 = .ok (.getfield 24, 3) := by decide +kernel
theorem dX4_addInput_113 : decode cX4_addInput 113 = .ok (.iload_n 1, 1) := by decide +kernel
theorem dX4_addInput_114 : decode cX4_addInput 114 = .ok (.iaload, 1) := by decide +kernel
theorem dX4_addInput_115 : decode cX4_addInput 115 = .ok (.ireturn, 1) := by decide +kernel
theorem dX4_input_0 : decode cX4_input 0 = .ok (.aload_n 0, 1) := by decide +kernel
theorem dX4_input_1 : decode cX4_input 1 = .ok (.getfield 21, 3) := by decide +kernel
theorem dX4_input_4 : decode cX4_input 4 = .ok (.iload_n 1, 1) := by decide +kernel
theorem dX4_input_5 : decode cX4_input 5 = .ok (.iconst 4, 1) := by decide +kernel
theorem dX4_input_6 : decode cX4_input 6 = .ok (.imul, 1) := by decide +kernel
theorem dX4_input_7 : decode cX4_input 7 = .ok (.iload_n 2, 1) := by decide +kernel
theorem dX4_input_8 : decode cX4_input 8 = .ok (.iadd, 1) := by decide +kernel
theorem dX4_input_9 : decode cX4_input 9 = .ok (.iaload, 1) := by decide +kernel
theorem dX4_input_10 : decode cX4_input 10 = .ok (.ireturn, 1) := by decide +kernel
theorem dX4_ownWord_0 : decode cX4_ownWord 0 = .ok (.aload_n 0, 1) := by decide +kernel
theorem dX4_ownWord_1 : decode cX4_ownWord 1 = .ok (.getfield 9, 3) := by decide +kernel
theorem dX4_ownWord_4 : decode cX4_ownWord 4 = .ok (.iload_n 1, 1) := by decide +kernel
theorem dX4_ownWord_5 : decode cX4_ownWord 5 = .ok (.iaload, 1) := by decide +kernel
theorem dX4_ownWord_6 : decode cX4_ownWord 6 = .ok (.istore_n 2, 1) := by decide +kernel
theorem dX4_ownWord_7 : decode cX4_ownWord 7 = .ok (.iload_n 2, 1) := by decide +kernel
theorem dX4_ownWord_8 : decode cX4_ownWord 8 = .ok (.iconst 1, 1) := by decide +kernel
theorem dX4_ownWord_9 : decode cX4_ownWord 9 = .ok (.if_icmp .eq 13, 3) := by decide +kernel
theorem dX4_ownWord_12 : decode cX4_ownWord 12 = .ok (.iload_n 2, 1) := by decide +kernel
theorem dX4_ownWord_13 : decode cX4_ownWord 13 = .ok (.iconst 2, 1) := by decide +kernel
theorem dX4_ownWord_14 : decode cX4_ownWord 14 = .ok (.if_icmp .eq 8, 3) := by decide +kernel
theorem dX4_ownWord_17 : decode cX4_ownWord 17 = .ok (.iload_n 2, 1) := by decide +kernel
theorem dX4_ownWord_18 : decode cX4_ownWord 18 = .ok (.iconst 5, 1) := by decide +kernel
theorem dX4_ownWord_19 : decode cX4_ownWord 19 = .ok (.if_icmp .ne 14, 3) := by decide +kernel
theorem dX4_ownWord_22 : decode cX4_ownWord 22 = .ok (.iconst 1, 1) := by decide +kernel
theorem dX4_ownWord_23 : decode cX4_ownWord 23 = .ok (.aload_n 0, 1) := by decide +kernel
theorem dX4_ownWord_24 : decode cX4_ownWord 24 = .ok (.getfield 18, 3) := by decide +kernel
theorem dX4_ownWord_27 : decode cX4_ownWord 27 = .ok (.iload_n 1, 1) := by decide +kernel
theorem dX4_ownWord_28 : decode cX4_ownWord 28 = .ok (.iaload, 1) := by decide +kernel
theorem dX4_ownWord_29 : decode cX4_ownWord 29 = .ok (.ishl, 1) := by decide +kernel
theorem dX4_ownWord_30 : decode cX4_ownWord 30 = .ok (.goto 4, 3) := by decide +kernel
theorem dX4_ownWord_33 : decode cX4_ownWord 33 = .ok (.iconst 0, 1) := by decide +kernel
theorem dX4_ownWord_34 : decode cX4_ownWord 34 = .ok (.ireturn, 1) := by decide +kernel
theorem dX4_stepsReachedBy_0 : decode cX4_stepsReachedBy 0 = .ok (.iconst 0, 1) := by decide +kernel
theorem dX4_stepsReachedBy_1 : decode cX4_stepsReachedBy 1 = .ok (.istore_n 2, 1) := by decide +kernel
theorem dX4_stepsReachedBy_2 : decode cX4_stepsReachedBy 2 = .ok (.iconst 0, 1) := by decide +kernel
theorem dX4_stepsReachedBy_3 : decode cX4_stepsReachedBy 3 = .ok (.istore_n 3, 1) := by decide +kernel
theorem dX4_stepsReachedBy_4 : decode cX4_stepsReachedBy 4 = .ok (.iload_n 3, 1) := by decide +kernel
theorem dX4_stepsReachedBy_5 : decode cX4_stepsReachedBy 5 = .ok (.aload_n 0, 1) := by decide +kernel
theorem dX4_stepsReachedBy_6 : decode cX4_stepsReachedBy 6 = .ok (.getfield 36, 3) := by decide +kernel
theorem dX4_stepsReachedBy_9 : decode cX4_stepsReachedBy 9 = .ok (.if_icmp .ge 28, 3) := by decide +kernel
theorem dX4_stepsReachedBy_12 : decode cX4_stepsReachedBy 12 = .ok (.aload_n 0, 1) := by decide +kernel
theorem dX4_stepsReachedBy_13 : decode cX4_stepsReachedBy 13 = .ok (.getfield 33, 3) := by decide +kernel
theorem dX4_stepsReachedBy_16 : decode cX4_stepsReachedBy 16 = .ok (.iload_n 3, 1) := by decide +kernel
theorem dX4_stepsReachedBy_17 : decode cX4_stepsReachedBy 17 = .ok (.iaload, 1) := by decide +kernel
theorem dX4_stepsReachedBy_18 : decode cX4_stepsReachedBy 18 = .ok (.iload_n 1, 1) := by decide +kernel
theorem dX4_stepsReachedBy_19 : decode cX4_stepsReachedBy 19 = .ok (.iushr, 1) := by decide +kernel
theorem dX4_stepsReachedBy_20 : decode cX4_stepsReachedBy 20 = .ok (.iconst 1, 1) := by decide +kernel
theorem dX4_stepsReachedBy_21 : decode cX4_stepsReachedBy 21 = .ok (.iand, 1) := by decide +kernel
theorem dX4_stepsReachedBy_22 : decode cX4_stepsReachedBy 22 = .ok (.ifCond .eq 9, 3) := by decide +kernel
theorem dX4_stepsReachedBy_25 : decode cX4_stepsReachedBy 25 = .ok (.iload_n 2, 1) := by decide +kernel
theorem dX4_stepsReachedBy_26 : decode cX4_stepsReachedBy 26 = .ok (.iconst 1, 1) := by decide +kernel
theorem dX4_stepsReachedBy_27 : decode cX4_stepsReachedBy 27 = .ok (.iload_n 3, 1) := by decide +kernel
theorem dX4_stepsReachedBy_28 : decode cX4_stepsReachedBy 28 = .ok (.ishl, 1) := by decide +kernel
theorem dX4_stepsReachedBy_29 : decode cX4_stepsReachedBy 29 = .ok (.ior, 1) := by decide +kernel
theorem dX4_stepsReachedBy_30 : decode cX4_stepsReachedBy 30 = .ok (.istore_n 2, 1) := by decide +kernel
theorem dX4_stepsReachedBy_31 : decode cX4_stepsReachedBy 31 = .ok (.iinc 3 1, 3) := by decide +kernel
theorem dX4_stepsReachedBy_34 : decode cX4_stepsReachedBy 34 = .ok (.goto (-30), 3) := by decide +kernel
theorem dX4_stepsReachedBy_37 : decode cX4_stepsReachedBy 37 = .ok (.iload_n 2, 1) := by decide +kernel
theorem dX4_stepsReachedBy_38 : decode cX4_stepsReachedBy 38 = .ok (.ireturn, 1) := by decide +kernel
theorem dX5_init_0 : decode cX5_init 0 = .ok (.aload_n 0, 1) := by decide +kernel
theorem dX5_init_1 : decode cX5_init 1 = .ok (.invokespecial 1, 3) := by decide +kernel
theorem dX5_init_4 : decode cX5_init 4 = .ok (.aload_n 0, 1) := by decide +kernel
theorem dX5_init_5 : decode cX5_init 5 = .ok (.iconst 0, 1) := by decide +kernel
theorem dX5_init_6 : decode cX5_init 6 = .ok (.newarray .int, 2) := by decide +kernel
theorem dX5_init_8 : decode cX5_init 8 = .ok (.putfield 7, 3) := by decide +kernel
theorem dX5_init_11 : decode cX5_init 11 = .ok (.aload_n 0, 1) := by decide +kernel
theorem dX5_init_12 : decode cX5_init 12 = .ok (.iload_n 1, 1) := by decide +kernel
theorem dX5_init_13 : decode cX5_init 13 = .ok (.iconst 0, 1) := by decide +kernel
theorem dX5_init_14 : decode cX5_init 14 = .ok (.invokestatic 13, 3) := by decide +kernel
theorem dX5_init_17 : decode cX5_init 17 = .ok (.putfield 19, 3) := by decide +kernel
theorem dX5_init_20 : decode cX5_init 20 = .ok (.return_, 1) := by decide +kernel
theorem dX5_put_0 : decode cX5_put 0 = .ok (.aload_n 0, 1) := by decide +kernel
theorem dX5_put_1 : decode cX5_put 1 = .ok (.iconst 1, 1) := by decide +kernel
theorem dX5_put_2 : decode cX5_put 2 = .ok (.invokevirtual 23, 3) := by decide +kernel
theorem dX5_put_5 : decode cX5_put 5 = .ok (.ifCond .ne 5, 3) := by decide +kernel
theorem dX5_put_8 : decode cX5_put 8 = .ok (.iconst 0, 1) := by decide +kernel
theorem dX5_put_9 : decode cX5_put 9 = .ok (.ireturn, 1) := by decide +kernel
theorem dX5_put_10 : decode cX5_put 10 = .ok (.aload_n 0, 1) := by decide +kernel
theorem dX5_put_11 : decode cX5_put 11 = .ok (.getfield 7, 3) := by decide +kernel
theorem dX5_put_14 : decode cX5_put 14 = .ok (.aload_n 0, 1) := by decide +kernel
theorem dX5_put_15 : decode cX5_put 15 = .ok (.getfield 27, 3) := by decide +kernel
theorem dX5_put_18 : decode cX5_put 18 = .ok (.iload_n 1, 1) := by decide +kernel
theorem dX5_put_19 : decode cX5_put 19 = .ok (.iastore, 1) := by decide +kernel
theorem dX5_put_20 : decode cX5_put 20 = .ok (.aload_n 0, 1) := by decide +kernel
theorem dX5_put_21 : decode cX5_put 21 = .ok (.dup, 1) := by decide +kernel
theorem dX5_put_22 : decode cX5_put 22 = .ok (.getfield 27, 3) := by decide +kernel
theorem dX5_put_25 : decode cX5_put 25 = .ok (.iconst 1, 1) := by decide +kernel
theorem dX5_put_26 : decode cX5_put 26 = .ok (.iadd, 1) := by decide +kernel
theorem dX5_put_27 : decode cX5_put 27 = .ok (.putfield 27, 3) := by decide +kernel
theorem dX5_put_30 : decode cX5_put 30 = .ok (.iconst 1, 1) := by decide +kernel
theorem dX5_put_31 : decode cX5_put 31 = .ok (.ireturn, 1) := by decide +kernel
theorem dX5_append_0 : decode cX5_append 0 = .ok (.aload_n 0, 1) := by decide +kernel
theorem dX5_append_1 : decode cX5_append 1 = .ok (.aload_n 1, 1) := by decide +kernel
theorem dX5_append_2 : decode cX5_append 2 = .ok (.getfield 27, 3) := by decide +kernel
theorem dX5_append_5 : decode cX5_append 5 = .ok (.invokevirtual 23, 3) := by decide +kernel
theorem dX5_append_8 : decode cX5_append 8 = .ok (.ifCond .ne 5, 3) := by decide +kernel
theorem dX5_append_11 : decode cX5_append 11 = .ok (.iconst 0, 1) := by decide +kernel
theorem dX5_append_12 : decode cX5_append 12 = .ok (.ireturn, 1) := by decide +kernel
theorem dX5_append_13 : decode cX5_append 13 = .ok (.aload_n 1, 1) := by decide +kernel
theorem dX5_append_14 : decode cX5_append 14 = .ok (.getfield 7, 3) := by decide +kernel
theorem dX5_append_17 : decode cX5_append 17 = .ok (.iconst 0, 1) := by decide +kernel
theorem dX5_append_18 : decode cX5_append 18 = .ok (.aload_n 0, 1) := by decide +kernel
theorem dX5_append_19 : decode cX5_append 19 = .ok (.getfield 7, 3) := by decide +kernel
theorem dX5_append_22 : decode cX5_append 22 = .ok (.aload_n 0, 1) := by decide +kernel
theorem dX5_append_23 : decode cX5_append 23 = .ok (.getfield 27, 3) := by decide +kernel
theorem dX5_append_26 : decode cX5_append 26 = .ok (.aload_n 1, 1) := by decide +kernel
theorem dX5_append_27 : decode cX5_append 27 = .ok (.getfield 27, 3) := by decide +kernel
theorem dX5_append_30 : decode cX5_append 30 = .ok (.invokestatic 30, 3) := by decide +kernel
theorem dX5_append_33 : decode cX5_append 33 = .ok (.aload_n 0, 1) := by decide +kernel
theorem dX5_append_34 : decode cX5_append 34 = .ok (.dup, 1) := by decide +kernel
theorem dX5_append_35 : decode cX5_append 35 = .ok (.getfield 27, 3) := by decide +kernel
theorem dX5_append_38 : decode cX5_append 38 = .ok (.aload_n 1, 1) := by decide +kernel
theorem dX5_append_39 : decode cX5_append 39 = .ok (.getfield 27, 3) := by decide +kernel
theorem dX5_append_42 : decode cX5_append 42 = .ok (.iadd, 1) := by decide +kernel
theorem dX5_append_43 : decode cX5_append 43 = .ok (.putfield 27, 3) := by decide +kernel
theorem dX5_append_46 : decode cX5_append 46 = .ok (.iconst 1, 1) := by decide +kernel
theorem dX5_append_47 : decode cX5_append 47 = .ok (.ireturn, 1) := by decide +kernel
theorem dX5_makeSpaceFor_0 : decode cX5_makeSpaceFor 0 = .ok (.aload_n 0, 1) := by decide +kernel
theorem dX5_makeSpaceFor_1 : decode cX5_makeSpaceFor 1 = .ok (.getfield 27, 3) := by decide +kernel
theorem dX5_makeSpaceFor_4 : decode cX5_makeSpaceFor 4 = .ok (.iload_n 1, 1) := by decide +kernel
theorem dX5_makeSpaceFor_5 : decode cX5_makeSpaceFor 5 = .ok (.iadd, 1) := by decide +kernel
theorem dX5_makeSpaceFor_6 : decode cX5_makeSpaceFor 6 = .ok (.aload_n 0, 1) := by decide +kernel
theorem dX5_makeSpaceFor_7 : decode cX5_makeSpaceFor 7 = .ok (.getfield 19, 3) := by decide +kernel
theorem dX5_makeSpaceFor_10 : decode cX5_makeSpaceFor 10 = .ok (.if_icmp .le 5, 3) := by decide +kernel
theorem dX5_makeSpaceFor_13 : decode cX5_makeSpaceFor 13 = .ok (.iconst 0, 1) := by decide +kernel
theorem dX5_makeSpaceFor_14 : decode cX5_makeSpaceFor 14 = .ok (.ireturn, 1) := by decide +kernel
theorem dX5_makeSpaceFor_15 : decode cX5_makeSpaceFor 15 = .ok (.iload_n 1, 1) := by decide +kernel
theorem dX5_makeSpaceFor_16 : decode cX5_makeSpaceFor 16 = .ok (.ifCond .le 25, 3) := by decide +kernel
theorem dX5_makeSpaceFor_19 : decode cX5_makeSpaceFor 19 = .ok (.aload_n 0, 1) := by decide +kernel
theorem dX5_makeSpaceFor_20 : decode cX5_makeSpaceFor 20 = .ok (.getfield 7, 3) := by decide +kernel
theorem dX5_makeSpaceFor_23 : decode cX5_makeSpaceFor 23 = .ok (.arraylength, 1) := by decide +kernel
theorem dX5_makeSpaceFor_24 : decode cX5_makeSpaceFor 24 = .ok (.aload_n 0, 1) := by decide +kernel
theorem dX5_makeSpaceFor_25 : decode cX5_makeSpaceFor 25 = .ok (.getfield 19, 3) := by decide +kernel
theorem dX5_makeSpaceFor_28 : decode cX5_makeSpaceFor 28 = .ok (.if_icmp .ge 13, 3) := by decide +kernel
theorem dX5_makeSpaceFor_31 : decode cX5_makeSpaceFor 31 = .ok (.aload_n 0, 1) := by decide +kernel
theorem dX5_makeSpaceFor_32 : decode cX5_makeSpaceFor 32 = .ok (.aload_n 0, 1) := by decide +kernel
theorem dX5_makeSpaceFor_33 : decode cX5_makeSpaceFor 33 = .ok (.getfield 19, 3) := by decide +kernel
theorem dX5_makeSpaceFor_36 : decode cX5_makeSpaceFor 36 = .ok (.newarray .int, 2) := by decide +kernel
theorem dX5_makeSpaceFor_38 : decode cX5_makeSpaceFor 38 = .ok (.putfield 7, 3) := by decide +kernel
theorem dX5_makeSpaceFor_41 : decode cX5_makeSpaceFor 41 = .ok (.iconst 1, 1) := by decide +kernel
theorem dX5_makeSpaceFor_42 : decode cX5_makeSpaceFor 42 = .ok (.ireturn, 1) := by decide +kernel
theorem dX5_isSameAs_0 : decode cX5_isSameAs 0 = .ok (.aload_n 0, 1) := by decide +kernel
theorem dX5_isSameAs_1 : decode cX5_isSameAs 1 = .ok (.getfield 27, 3) := by decide +kernel
theorem dX5_isSameAs_4 : decode cX5_isSameAs 4 = .ok (.aload_n 1, 1) := by decide +kernel
theorem dX5_isSameAs_5 : decode cX5_isSameAs 5 = .ok (.getfield 27, 3) := by decide +kernel
theorem dX5_isSameAs_8 : decode cX5_isSameAs 8 = .ok (.if_icmp .eq 5, 3) := by decide +kernel
theorem dX5_isSameAs_11 : decode cX5_isSameAs 11 = .ok (.iconst 0, 1) := by decide +kernel
theorem dX5_isSameAs_12 : decode cX5_isSameAs 12 = .ok (.ireturn, 1) := by decide +kernel
theorem dX5_isSameAs_13 : decode cX5_isSameAs 13 = .ok (.iconst 0, 1) := by decide +kernel
theorem dX5_isSameAs_14 : decode cX5_isSameAs 14 = .ok (.istore_n 2, 1) := by decide +kernel
theorem dX5_isSameAs_15 : decode cX5_isSameAs 15 = .ok (.iload_n 2, 1) := by decide +kernel
theorem dX5_isSameAs_16 : decode cX5_isSameAs 16 = .ok (.aload_n 0, 1) := by decide +kernel
theorem dX5_isSameAs_17 : decode cX5_isSameAs 17 = .ok (.getfield 27, 3) := by decide +kernel
theorem dX5_isSameAs_20 : decode cX5_isSameAs 20 = .ok (.if_icmp .ge 26, 3) := by decide +kernel
theorem dX5_isSameAs_23 : decode cX5_isSameAs 23 = .ok (.aload_n 0, 1) := by decide +kernel
theorem dX5_isSameAs_24 : decode cX5_isSameAs 24 = .ok (.getfield 7, 3) := by decide +kernel
theorem dX5_isSameAs_27 : decode cX5_isSameAs 27 = .ok (.iload_n 2, 1) := by decide +kernel
theorem dX5_isSameAs_28 : decode cX5_isSameAs 28 = .ok (.iaload, 1) := by decide +kernel
theorem dX5_isSameAs_29 : decode cX5_isSameAs 29 = .ok (.aload_n 1, 1) := by decide +kernel
theorem dX5_isSameAs_30 : decode cX5_isSameAs 30 = .ok (.getfield 7, 3) := by decide +kernel
theorem dX5_isSameAs_33 : decode cX5_isSameAs 33 = .ok (.iload_n 2, 1) := by decide +kernel
theorem dX5_isSameAs_34 : decode cX5_isSameAs 34 = .ok (.iaload, 1) := by decide +kernel
theorem dX5_isSameAs_35 : decode cX5_isSameAs 35 = .ok (.if_icmp .eq 5, 3) := by decide +kernel
theorem dX5_isSameAs_38 : decode cX5_isSameAs 38 = .ok (.iconst 0, 1) := by decide +kernel
theorem dX5_isSameAs_39 : decode cX5_isSameAs 39 = .ok (.ireturn, 1) := by decide +kernel
theorem dX5_isSameAs_40 : decode cX5_isSameAs 40 = .ok (.iinc 2 1, 3) := by decide +kernel
theorem dX5_isSameAs_43 : decode cX5_isSameAs 43 = .ok (.goto (-28), 3) := by decide +kernel
theorem dX5_isSameAs_46 : decode cX5_isSameAs 46 = .ok (.iconst 1, 1) := by decide +kernel
theorem dX5_isSameAs_47 : decode cX5_isSameAs 47 = .ok (.ireturn, 1) := by decide +kernel
theorem dX6_init_0 : decode cX6_init 0 = .ok (.aload_n 0, 1) := by decide +kernel
theorem dX6_init_1 : decode cX6_init 1 = .ok (.invokespecial 3, 3) := by decide +kernel
theorem dX6_init_4 : decode cX6_init 4 = .ok (.aload_n 0, 1) := by decide +kernel
theorem dX6_init_5 : decode cX6_init 5 = .ok (.new 9, 3) := by decide +kernel
theorem dX6_init_8 : decode cX6_init 8 = .ok (.dup, 1) := by decide +kernel
theorem dX6_init_9 : decode cX6_init 9 = .ok (.bipush 60, 2) := by decide +kernel
theorem dX6_init_11 : decode cX6_init 11 = .ok (.invokespecial 11, 3) := by decide +kernel
theorem dX6_init_14 : decode cX6_init 14 = .ok (.putfield 14, 3) := by decide +kernel
theorem dX6_init_17 : decode cX6_init 17 = .ok (.aload_n 0, 1) := by decide +kernel
theorem dX6_init_18 : decode cX6_init 18 = .ok (.bipush 20, 2) := by decide +kernel
theorem dX6_init_20 : decode cX6_init 20 = .ok (.anewarray 9, 3) := by decide +kernel
theorem dX6_init_23 : decode cX6_init 23 = .ok (.putfield 20, 3) := by decide +kernel
theorem dX6_init_26 : decode cX6_init 26 = .ok (.iconst 0, 1) := by decide +kernel
theorem dX6_init_27 : decode cX6_init 27 = .ok (.istore_n 1, 1) := by decide +kernel
theorem dX6_init_28 : decode cX6_init 28 = .ok (.iload_n 1, 1) := by decide +kernel
theorem dX6_init_29 : decode cX6_init 29 = .ok (.bipush 20, 2) := by decide +kernel
theorem dX6_init_31 : decode cX6_init 31 = .ok (.if_icmp .ge 24, 3) := by decide +kernel
theorem dX6_init_34 : decode cX6_init 34 = .ok (.aload_n 0, 1) := by decide +kernel
theorem dX6_init_35 : decode cX6_init 35 = .ok (.getfield 20, 3) := by decide +kernel
theorem dX6_init_38 : decode cX6_init 38 = .ok (.iload_n 1, 1) := by decide +kernel
theorem dX6_init_39 : decode cX6_init 39 = .ok (.new 9, 3) := by decide +kernel
theorem dX6_init_42 : decode cX6_init 42 = .ok (.dup, 1) := by decide +kernel
theorem dX6_init_43 : decode cX6_init 43 = .ok (.bipush 60, 2) := by decide +kernel
theorem dX6_init_45 : decode cX6_init 45 = .ok (.invokespecial 11, 3) := by decide +kernel
theorem dX6_init_48 : decode cX6_init 48 = .ok (.aastore, 1) := by decide +kernel
theorem dX6_init_49 : decode cX6_init 49 = .ok (.iinc 1 1, 3) := by decide +kernel
theorem dX6_init_52 : decode cX6_init 52 = .ok (.goto (-24), 3) := by decide +kernel
theorem dX6_init_55 : decode cX6_init 55 = .ok (.return_, 1) := by decide +kernel
theorem dX6_tapeTo_0 : decode cX6_tapeTo 0 = .ok (.aload_n 0, 1) := by decide +kernel
theorem dX6_tapeTo_1 : decode cX6_tapeTo 1 = .ok (.getfield 20, 3) := by decide +kernel
theorem dX6_tapeTo_4 : decode cX6_tapeTo 4 = .ok (.iload_n 1, 1) := by decide +kernel
theorem dX6_tapeTo_5 : decode cX6_tapeTo 5 = .ok (.aaload, 1) := by decide +kernel
theorem dX6_tapeTo_6 : decode cX6_tapeTo 6 = .ok (.iconst 0, 1) := by decide +kernel
theorem dX6_tapeTo_7 : decode cX6_tapeTo 7 = .ok (.putfield 24, 3) := by decide +kernel
theorem dX6_tapeTo_10 : decode cX6_tapeTo 10 = .ok (.aload_n 0, 1) := by decide +kernel
theorem dX6_tapeTo_11 : decode cX6_tapeTo 11 = .ok (.getfield 20, 3) := by decide +kernel
theorem dX6_tapeTo_14 : decode cX6_tapeTo 14 = .ok (.iload_n 1, 1) := by decide +kernel
theorem dX6_tapeTo_15 : decode cX6_tapeTo 15 = .ok (.aaload, 1) := by decide +kernel
theorem dX6_tapeTo_16 : decode cX6_tapeTo 16 = .ok (.aload_n 0, 1) := by decide +kernel
theorem dX6_tapeTo_17 : decode cX6_tapeTo 17 = .ok (.getfield 14, 3) := by decide +kernel
theorem dX6_tapeTo_20 : decode cX6_tapeTo 20 = .ok (.invokevirtual 28, 3) := by decide +kernel
theorem dX6_tapeTo_23 : decode cX6_tapeTo 23 = .ok (.pop, 1) := by decide +kernel
theorem dX6_tapeTo_24 : decode cX6_tapeTo 24 = .ok (.aload_n 0, 1) := by decide +kernel
theorem dX6_tapeTo_25 : decode cX6_tapeTo 25 = .ok (.getfield 14, 3) := by decide +kernel
theorem dX6_tapeTo_28 : decode cX6_tapeTo 28 = .ok (.iconst 0, 1) := by decide +kernel
theorem dX6_tapeTo_29 : decode cX6_tapeTo 29 = .ok (.putfield 24, 3) := by decide +kernel
theorem dX6_tapeTo_32 : decode cX6_tapeTo 32 = .ok (.aload_n 0, 1) := by decide +kernel
theorem dX6_tapeTo_33 : decode cX6_tapeTo 33 = .ok (.getfield 20, 3) := by decide +kernel
theorem dX6_tapeTo_36 : decode cX6_tapeTo 36 = .ok (.iload_n 1, 1) := by decide +kernel
theorem dX6_tapeTo_37 : decode cX6_tapeTo 37 = .ok (.aaload, 1) := by decide +kernel
theorem dX6_tapeTo_38 : decode cX6_tapeTo 38 = .ok (.getfield 24, 3) := by decide +kernel
theorem dX6_tapeTo_41 : decode cX6_tapeTo 41 = .ok (.ireturn, 1) := by decide +kernel
theorem dX7_init_0 : decode cX7_init 0 = .ok (.aload_n 0, 1) := by decide +kernel
theorem dX7_init_1 : decode cX7_init 1 = .ok (.invokespecial 1, 3) := by decide +kernel
theorem dX7_init_4 : decode cX7_init 4 = .ok (.aload_n 0, 1) := by decide +kernel
theorem dX7_init_5 : decode cX7_init 5 = .ok (.new 7, 3) := by decide +kernel
theorem dX7_init_8 : decode cX7_init 8 = .ok (.dup, 1) := by decide +kernel
theorem dX7_init_9 : decode cX7_init 9 = .ok (.invokespecial 9, 3) := by decide +kernel
theorem dX7_init_12 : decode cX7_init 12 = .ok (.putfield 10, 3) := by decide +kernel
theorem dX7_init_15 : decode cX7_init 15 = .ok (.aload_n 0, 1) := by decide +kernel
theorem dX7_init_16 : decode cX7_init 16 = .ok (.new 16, 3) := by decide +kernel
theorem dX7_init_19 : decode cX7_init 19 = .ok (.dup, 1) := by decide +kernel
theorem dX7_init_20 : decode cX7_init 20 = .ok (.invokespecial 18, 3) := by decide +kernel
theorem dX7_init_23 : decode cX7_init 23 = .ok (.putfield 19, 3) := by decide +kernel
theorem dX7_init_26 : decode cX7_init 26 = .ok (.aload_n 0, 1) := by decide +kernel
theorem dX7_init_27 : decode cX7_init 27 = .ok (.bipush 8, 2) := by decide +kernel
theorem dX7_init_29 : decode cX7_init 29 = .ok (.bipush 8, 2) := by decide +kernel
theorem dX7_init_31 : decode cX7_init 31 = .ok (.multianewarray 23 2, 4) := by decide +kernel
theorem dX7_init_35 : decode cX7_init 35 = .ok (.putfield 25, 3) := by decide +kernel
theorem dX7_init_38 : decode cX7_init 38 = .ok (.aload_n 0, 1) := by decide +kernel
theorem dX7_init_39 : decode cX7_init 39 = .ok (.new 28, 3) := by decide +kernel
theorem dX7_init_42 : decode cX7_init 42 = .ok (.dup, 1) := by decide +kernel
theorem dX7_init_43 : decode cX7_init 43 = .ok (.aload_n 0, 1) := by decide +kernel
theorem dX7_init_44 : decode cX7_init 44 = .ok (.getfield 19, 3) := by decide +kernel
theorem dX7_init_47 : decode cX7_init 47 = .ok (.aload_n 0, 1) := by decide +kernel
theorem dX7_init_48 : decode cX7_init 48 = .ok (.getfield 10, 3) := by decide +kernel
theorem dX7_init_51 : decode cX7_init 51 = .ok (.invokespecial 30, 3) := by decide +kernel
theorem dX7_init_54 : decode cX7_init 54 = .ok (.putfield 33, 3) := by decide +kernel
theorem dX7_init_57 : decode cX7_init 57 = .ok (.aload_n 0, 1) := by decide +kernel
theorem dX7_init_58 : decode cX7_init 58 = .ok (.new 28, 3) := by decide +kernel
theorem dX7_init_61 : decode cX7_init 61 = .ok (.dup, 1) := by decide +kernel
theorem dX7_init_62 : decode cX7_init 62 = .ok (.aload_n 0, 1) := by decide +kernel
theorem dX7_init_63 : decode cX7_init 63 = .ok (.getfield 19, 3) := by decide +kernel
theorem dX7_init_66 : decode cX7_init 66 = .ok (.aload_n 0, 1) := by decide +kernel
theorem dX7_init_67 : decode cX7_init 67 = .ok (.getfield 10, 3) := by decide +kernel
theorem dX7_init_70 : decode cX7_init 70 = .ok (.invokespecial 30, 3) := by decide +kernel
theorem dX7_init_73 : decode cX7_init 73 = .ok (.putfield 37, 3) := by decide +kernel
theorem dX7_init_76 : decode cX7_init 76 = .ok (.aload_n 0, 1) := by decide +kernel
theorem dX7_init_77 : decode cX7_init 77 = .ok (.new 40, 3) := by decide +kernel
theorem dX7_init_80 : decode cX7_init 80 = .ok (.dup, 1) := by decide +kernel
theorem dX7_init_81 : decode cX7_init 81 = .ok (.invokespecial 42, 3) := by decide +kernel
theorem dX7_init_84 : decode cX7_init 84 = .ok (.putfield 43, 3) := by decide +kernel
theorem dX7_init_87 : decode cX7_init 87 = .ok (.aload_n 0, 1) := by decide +kernel
theorem dX7_init_88 : decode cX7_init 88 = .ok (.new 47, 3) := by decide +kernel
theorem dX7_init_91 : decode cX7_init 91 = .ok (.dup, 1) := by decide +kernel
theorem dX7_init_92 : decode cX7_init 92 = .ok (.invokespecial 49, 3) := by decide +kernel
theorem dX7_init_95 : decode cX7_init 95 = .ok (.putfield 50, 3) := by decide +kernel
theorem dX7_init_98 : decode cX7_init 98 = .ok (.aload_n 0, 1) := by decide +kernel
theorem dX7_init_99 : decode cX7_init 99 = .ok (.new 54, 3) := by decide +kernel
theorem dX7_init_102 : decode cX7_init 102 = .ok (.dup, 1) := by decide +kernel
theorem dX7_init_103 : decode cX7_init 103 = .ok (.invokespecial 56, 3) := by decide +kernel
theorem dX7_init_106 : decode cX7_init 106 = .ok (.putfield 57, 3) := by decide +kernel
theorem dX7_init_109 : decode cX7_init 109 = .ok (.return_, 1) := by decide +kernel
theorem dX7_feed_0 : decode cX7_feed 0 = .ok (.iload_n 1, 1) := by decide +kernel
theorem dX7_feed_1 : decode cX7_feed 1 = .ok (.iconst 1, 1) := by decide +kernel
theorem dX7_feed_2 : decode cX7_feed 2 = .ok (.if_icmp .lt 8, 3) := by decide +kernel
theorem dX7_feed_5 : decode cX7_feed 5 = .ok (.iload_n 1, 1) := by decide +kernel
theorem dX7_feed_6 : decode cX7_feed 6 = .ok (.iconst 4, 1) := by decide +kernel
theorem dX7_feed_7 : decode cX7_feed 7 = .ok (.if_icmp .le 5, 3) := by decide +kernel
theorem dX7_feed_10 : decode cX7_feed 10 = .ok (.iconst (-1), 1) := by decide +kernel
theorem dX7_feed_11 : decode cX7_feed 11 = .ok (.ireturn, 1) := by decide +kernel
theorem dX7_feed_12 : decode cX7_feed 12 = .ok (.aload_n 0, 1) := by decide +kernel
theorem dX7_feed_13 : decode cX7_feed 13 = .ok (.getfield 10, 3) := by decide +kernel
theorem dX7_feed_16 : decode cX7_feed 16 = .ok (.getfield 61, 3) := by decide +kernel
theorem dX7_feed_19 : decode cX7_feed 19 = .ok (.astore_n 3, 1) := by decide +kernel
theorem dX7_feed_20 : decode cX7_feed 20 = .ok (.aload_n 3, 1) := by decide +kernel
theorem dX7_feed_21 : decode cX7_feed 21 = .ok (.getfield 65, 3) := by decide +kernel
theorem dX7_feed_24 : decode cX7_feed 24 = .ok (.iload_n 1, 1) := by decide +kernel
theorem dX7_feed_25 : decode cX7_feed 25 = .ok (.iadd, 1) := by decide +kernel
theorem dX7_feed_26 : decode cX7_feed 26 = .ok (.bipush 60, 2) := by decide +kernel
theorem dX7_feed_28 : decode cX7_feed 28 = .ok (.if_icmp .le 6, 3) := by decide +kernel
theorem dX7_feed_31 : decode cX7_feed 31 = .ok (.bipush (-3), 2) := by decide +kernel
theorem dX7_feed_33 : decode cX7_feed 33 = .ok (.ireturn, 1) := by decide +kernel
theorem dX7_feed_34 : decode cX7_feed 34 = .ok (.iconst 0, 1) := by decide +kernel
theorem dX7_feed_35 : decode cX7_feed 35 = .ok (.istore 4, 2) := by decide +kernel
theorem dX7_feed_37 : decode cX7_feed 37 = .ok (.iload 4, 2) := by decide +kernel
theorem dX7_feed_39 : decode cX7_feed 39 = .ok (.iload_n 1, 1) := by decide +kernel
theorem dX7_feed_40 : decode cX7_feed 40 = .ok (.if_icmp .ge 25, 3) := by decide +kernel
theorem dX7_feed_43 : decode cX7_feed 43 = .ok (.aload_n 3, 1) := by decide +kernel
theorem dX7_feed_44 : decode cX7_feed 44 = .ok (.iload_n 2, 1) := by decide +kernel
theorem dX7_feed_45 : decode cX7_feed 45 = .ok (.bipush 8, 2) := by decide +kernel
theorem dX7_feed_47 : decode cX7_feed 47 = .ok (.iload 4, 2) := by decide +kernel
theorem dX7_feed_49 : decode cX7_feed 49 = .ok (.imul, 1) := by decide +kernel
theorem dX7_feed_50 : decode cX7_feed 50 = .ok (.iushr, 1) := by decide +kernel
theorem dX7_feed_51 : decode cX7_feed 51 = .ok (.sipush 255, 3) := by decide +kernel
theorem dX7_feed_54 : decode cX7_feed 54 = .ok (.iand, 1) := by decide +kernel
theorem dX7_feed_55 : decode cX7_feed 55 = .ok (.invokevirtual 71, 3) := by decide +kernel
theorem dX7_feed_58 : decode cX7_feed 58 = .ok (.pop, 1) := by decide +kernel
theorem dX7_feed_59 : decode cX7_feed 59 = .ok (.iinc 4 1, 3) := by decide +kernel
theorem dX7_feed_62 : decode cX7_feed 62 = .ok (.goto (-25), 3) := by decide +kernel
theorem dX7_feed_65 : decode cX7_feed 65 = .ok (.aload_n 3, 1) := by decide +kernel
theorem dX7_feed_66 : decode cX7_feed 66 = .ok (.getfield 65, 3) := by decide +kernel
theorem dX7_feed_69 : decode cX7_feed 69 = .ok (.ireturn, 1) := by decide +kernel
theorem dX7_text_0 : decode cX7_text 0 = .ok (.aload_n 0, 1) := by decide +kernel
theorem dX7_text_1 : decode cX7_text 1 = .ok (.getfield 10, 3) := by decide +kernel
theorem dX7_text_4 : decode cX7_text 4 = .ok (.getfield 75, 3) := by decide +kernel
theorem dX7_text_7 : decode cX7_text 7 = .ok (.bipush 20, 2) := by decide +kernel
theorem dX7_text_9 : decode cX7_text 9 = .ok (.if_icmp .lt 6, 3) := by decide +kernel
theorem dX7_text_12 : decode cX7_text 12 = .ok (.bipush (-3), 2) := by decide +kernel
theorem dX7_text_14 : decode cX7_text 14 = .ok (.ireturn, 1) := by decide +kernel
theorem dX7_text_15 : decode cX7_text 15 = .ok (.aload_n 0, 1) := by decide +kernel
theorem dX7_text_16 : decode cX7_text 16 = .ok (.getfield 10, 3) := by decide +kernel
theorem dX7_text_19 : decode cX7_text 19 = .ok (.aload_n 0, 1) := by decide +kernel
theorem dX7_text_20 : decode cX7_text 20 = .ok (.getfield 10, 3) := by decide +kernel
theorem dX7_text_23 : decode cX7_text 23 = .ok (.getfield 75, 3) := by decide +kernel
theorem dX7_text_26 : decode cX7_text 26 = .ok (.invokevirtual 76, 3) := by decide +kernel
theorem dX7_text_29 : decode cX7_text 29 = .ok (.pop, 1) := by decide +kernel
theorem dX7_text_30 : decode cX7_text 30 = .ok (.aload_n 0, 1) := by decide +kernel
theorem dX7_text_31 : decode cX7_text 31 = .ok (.getfield 10, 3) := by decide +kernel
theorem dX7_text_34 : decode cX7_text 34 = .ok (.dup, 1) := by decide +kernel
theorem dX7_text_35 : decode cX7_text 35 = .ok (.getfield 75, 3) := by decide +kernel
theorem dX7_text_38 : decode cX7_text 38 = .ok (.iconst 1, 1) := by decide +kernel
theorem dX7_text_39 : decode cX7_text 39 = .ok (.iadd, 1) := by decide +kernel
theorem dX7_text_40 : decode cX7_text 40 = .ok (.putfield 75, 3) := by decide +kernel
theorem dX7_text_43 : decode cX7_text 43 = .ok (.aload_n 0, 1) := by decide +kernel
theorem dX7_text_44 : decode cX7_text 44 = .ok (.getfield 10, 3) := by decide +kernel
theorem dX7_text_47 : decode cX7_text 47 = .ok (.getfield 75, 3) := by decide +kernel
theorem dX7_text_50 : decode cX7_text 50 = .ok (.iconst 1, 1) := by decide +kernel
theorem dX7_text_51 : decode cX7_text 51 = .ok (.isub, 1) := by decide +kernel
theorem dX7_text_52 : decode cX7_text 52 = .ok (.ireturn, 1) := by decide +kernel
theorem dX7_write_0 : decode cX7_write 0 = .ok (.aload_n 0, 1) := by decide +kernel
theorem dX7_write_1 : decode cX7_write 1 = .ok (.iload_n 1, 1) := by decide +kernel
theorem dX7_write_2 : decode cX7_write 2 = .ok (.invokevirtual 80, 3) := by decide +kernel
theorem dX7_write_5 : decode cX7_write 5 = .ok (.ifCond .ne 5, 3) := by decide +kernel
theorem dX7_write_8 : decode cX7_write 8 = .ok (.iconst (-1), 1) := by decide +kernel
theorem dX7_write_9 : decode cX7_write 9 = .ok (.ireturn, 1) := by decide +kernel
theorem dX7_write_10 : decode cX7_write 10 = .ok (.aload_n 0, 1) := by decide +kernel
theorem dX7_write_11 : decode cX7_write 11 = .ok (.getfield 10, 3) := by decide +kernel
theorem dX7_write_14 : decode cX7_write 14 = .ok (.iload_n 1, 1) := by decide +kernel
theorem dX7_write_15 : decode cX7_write 15 = .ok (.invokevirtual 76, 3) := by decide +kernel
theorem dX7_write_18 : decode cX7_write 18 = .ok (.ireturn, 1) := by decide +kernel
theorem dX7_lack_0 : decode cX7_lack 0 = .ok (.aload_n 0, 1) := by decide +kernel
theorem dX7_lack_1 : decode cX7_lack 1 = .ok (.iload_n 1, 1) := by decide +kernel
theorem dX7_lack_2 : decode cX7_lack 2 = .ok (.invokevirtual 80, 3) := by decide +kernel
theorem dX7_lack_5 : decode cX7_lack 5 = .ok (.ifCond .eq 10, 3) := by decide +kernel
theorem dX7_lack_8 : decode cX7_lack 8 = .ok (.iload_n 2, 1) := by decide +kernel
theorem dX7_lack_9 : decode cX7_lack 9 = .ok (.invokestatic 83, 3) := by decide +kernel
theorem dX7_lack_12 : decode cX7_lack 12 = .ok (.ifCond .ne 5, 3) := by decide +kernel
theorem dX7_lack_15 : decode cX7_lack 15 = .ok (.iconst (-1), 1) := by decide +kernel
theorem dX7_lack_16 : decode cX7_lack 16 = .ok (.ireturn, 1) := by decide +kernel
theorem dX7_lack_17 : decode cX7_lack 17 = .ok (.aload_n 0, 1) := by decide +kernel
theorem dX7_lack_18 : decode cX7_lack 18 = .ok (.getfield 10, 3) := by decide +kernel
theorem dX7_lack_21 : decode cX7_lack 21 = .ok (.getfield 86, 3) := by decide +kernel
theorem dX7_lack_24 : decode cX7_lack 24 = .ok (.iload_n 1, 1) := by decide +kernel
theorem dX7_lack_25 : decode cX7_lack 25 = .ok (.iushr, 1) := by decide +kernel
theorem dX7_lack_26 : decode cX7_lack 26 = .ok (.iconst 1, 1) := by decide +kernel
theorem dX7_lack_27 : decode cX7_lack 27 = .ok (.iand, 1) := by decide +kernel
theorem dX7_lack_28 : decode cX7_lack 28 = .ok (.istore_n 3, 1) := by decide +kernel
theorem dX7_lack_29 : decode cX7_lack 29 = .ok (.aload_n 0, 1) := by decide +kernel
theorem dX7_lack_30 : decode cX7_lack 30 = .ok (.getfield 10, 3) := by decide +kernel
theorem dX7_lack_33 : decode cX7_lack 33 = .ok (.aload_n 0, 1) := by decide +kernel
theorem dX7_lack_34 : decode cX7_lack 34 = .ok (.getfield 10, 3) := by decide +kernel
theorem dX7_lack_37 : decode cX7_lack 37 = .ok (.getfield 86, 3) := by decide +kernel
theorem dX7_lack_40 : decode cX7_lack 40 = .ok (.iload_n 1, 1) := by decide +kernel
theorem dX7_lack_41 : decode cX7_lack 41 = .ok (.iload_n 2, 1) := by decide +kernel
theorem dX7_lack_42 : decode cX7_lack 42 = .ok (.invokestatic 89, 3) := by decide +kernel
theorem dX7_lack_45 : decode cX7_lack 45 = .ok (.putfield 86, 3) := by decide +kernel
theorem dX7_lack_48 : decode cX7_lack 48 = .ok (.iload_n 3, 1) := by decide +kernel
theorem dX7_lack_49 : decode cX7_lack 49 = .ok (.ireturn, 1) := by decide +kernel
theorem dX7_word_0 : decode cX7_word 0 = .ok (.iload_n 1, 1) := by decide +kernel
theorem dX7_word_1 : decode cX7_word 1 = .ok (.invokestatic 93, 3) := by decide +kernel
theorem dX7_word_4 : decode cX7_word 4 = .ok (.ifCond .eq 21, 3) := by decide +kernel
theorem dX7_word_7 : decode cX7_word 7 = .ok (.iload_n 2, 1) := by decide +kernel
theorem dX7_word_8 : decode cX7_word 8 = .ok (.invokestatic 96, 3) := by decide +kernel
theorem dX7_word_11 : decode cX7_word 11 = .ok (.ifCond .eq 14, 3) := by decide +kernel
theorem dX7_word_14 : decode cX7_word 14 = .ok (.iload_n 3, 1) := by decide +kernel
theorem dX7_word_15 : decode cX7_word 15 = .ok (.ifCond .lt 10, 3) := by decide +kernel
theorem dX7_word_18 : decode cX7_word 18 = .ok (.iload_n 3, 1) := by decide +kernel
theorem dX7_word_19 : decode cX7_word 19 = .ok (.sipush 255, 3) := by decide +kernel
theorem dX7_word_22 : decode cX7_word 22 = .ok (.if_icmp .le 5, 3) := by decide +kernel
theorem dX7_word_25 : decode cX7_word 25 = .ok (.iconst (-1), 1) := by decide +kernel
theorem dX7_word_26 : decode cX7_word 26 = .ok (.ireturn, 1) := by decide +kernel
theorem dX7_word_27 : decode cX7_word 27 = .ok (.aload_n 0, 1) := by decide +kernel
theorem dX7_word_28 : decode cX7_word 28 = .ok (.getfield 25, 3) := by decide +kernel
theorem dX7_word_31 : decode cX7_word 31 = .ok (.iload_n 1, 1) := by decide +kernel
theorem dX7_word_32 : decode cX7_word 32 = .ok (.aaload, 1) := by decide +kernel
theorem dX7_word_33 : decode cX7_word 33 = .ok (.iload_n 2, 1) := by decide +kernel
theorem dX7_word_34 : decode cX7_word 34 = .ok (.iaload, 1) := by decide +kernel
theorem dX7_word_35 : decode cX7_word 35 = .ok (.istore 4, 2) := by decide +kernel
theorem dX7_word_37 : decode cX7_word 37 = .ok (.aload_n 0, 1) := by decide +kernel
theorem dX7_word_38 : decode cX7_word 38 = .ok (.getfield 25, 3) := by decide +kernel
theorem dX7_word_41 : decode cX7_word 41 = .ok (.iload_n 1, 1) := by decide +kernel
theorem dX7_word_42 : decode cX7_word 42 = .ok (.aaload, 1) := by decide +kernel
theorem dX7_word_43 : decode cX7_word 43 = .ok (.iload_n 2, 1) := by decide +kernel
theorem dX7_word_44 : decode cX7_word 44 = .ok (.iload_n 3, 1) := by decide +kernel
theorem dX7_word_45 : decode cX7_word 45 = .ok (.iastore, 1) := by decide +kernel
theorem dX7_word_46 : decode cX7_word 46 = .ok (.iload 4, 2) := by decide +kernel
theorem dX7_word_48 : decode cX7_word 48 = .ok (.ireturn, 1) := by decide +kernel
theorem dX7_copy_0 : decode cX7_copy 0 = .ok (.iload_n 1, 1) := by decide +kernel
theorem dX7_copy_1 : decode cX7_copy 1 = .ok (.iload_n 2, 1) := by decide +kernel
theorem dX7_copy_2 : decode cX7_copy 2 = .ok (.invokestatic 99, 3) := by decide +kernel
theorem dX7_copy_5 : decode cX7_copy 5 = .ok (.ifCond .ne 5, 3) := by decide +kernel
theorem dX7_copy_8 : decode cX7_copy 8 = .ok (.iconst (-1), 1) := by decide +kernel
theorem dX7_copy_9 : decode cX7_copy 9 = .ok (.ireturn, 1) := by decide +kernel
theorem dX7_copy_10 : decode cX7_copy 10 = .ok (.aload_n 0, 1) := by decide +kernel
theorem dX7_copy_11 : decode cX7_copy 11 = .ok (.iload_n 1, 1) := by decide +kernel
theorem dX7_copy_12 : decode cX7_copy 12 = .ok (.iload_n 2, 1) := by decide +kernel
theorem dX7_copy_13 : decode cX7_copy 13 = .ok (.invokevirtual 103, 3) := by decide +kernel
theorem dX7_copy_16 : decode cX7_copy 16 = .ok (.invokestatic 107, 3) := by decide +kernel
theorem dX7_copy_19 : decode cX7_copy 19 = .ok (.istore_n 3, 1) := by decide +kernel
theorem dX7_copy_20 : decode cX7_copy 20 = .ok (.aload_n 0, 1) := by decide +kernel
theorem dX7_copy_21 : decode cX7_copy 21 = .ok (.getfield 25, 3) := by decide +kernel
theorem dX7_copy_24 : decode cX7_copy 24 = .ok (.iload_n 1, 1) := by decide +kernel
theorem dX7_copy_25 : decode cX7_copy 25 = .ok (.aaload, 1) := by decide +kernel
theorem dX7_copy_26 : decode cX7_copy 26 = .ok (.iconst 0, 1) := by decide +kernel
theorem dX7_copy_27 : decode cX7_copy 27 = .ok (.aload_n 0, 1) := by decide +kernel
theorem dX7_copy_28 : decode cX7_copy 28 = .ok (.getfield 25, 3) := by decide +kernel
theorem dX7_copy_31 : decode cX7_copy 31 = .ok (.iload_n 2, 1) := by decide +kernel
theorem dX7_copy_32 : decode cX7_copy 32 = .ok (.aaload, 1) := by decide +kernel
theorem dX7_copy_33 : decode cX7_copy 33 = .ok (.iconst 0, 1) := by decide +kernel
theorem dX7_copy_34 : decode cX7_copy 34 = .ok (.bipush 8, 2) := by decide +kernel
theorem dX7_copy_36 : decode cX7_copy 36 = .ok (.invokestatic 112, 3) := by decide +kernel
theorem dX7_copy_39 : decode cX7_copy 39 = .ok (.iload_n 3, 1) := by decide +kernel
theorem dX7_copy_40 : decode cX7_copy 40 = .ok (.ireturn, 1) := by decide +kernel
theorem dX7_step_0 : decode cX7_step 0 = .ok (.iload_n 1, 1) := by decide +kernel
theorem dX7_step_1 : decode cX7_step 1 = .ok (.ifCond .lt 30, 3) := by decide +kernel
theorem dX7_step_4 : decode cX7_step 4 = .ok (.iload_n 1, 1) := by decide +kernel
theorem dX7_step_5 : decode cX7_step 5 = .ok (.bipush 7, 2) := by decide +kernel
theorem dX7_step_7 : decode cX7_step 7 = .ok (.if_icmp .gt 24, 3) := by decide +kernel
theorem dX7_step_10 : decode cX7_step 10 = .ok (.iload_n 2, 1) := by decide +kernel
theorem dX7_step_11 : decode cX7_step 11 = .ok (.ifCond .lt 20, 3) := by decide +kernel
theorem dX7_step_14 : decode cX7_step 14 = .ok (.iload_n 2, 1) := by decide +kernel
theorem dX7_step_15 : decode cX7_step 15 = .ok (.sipush 255, 3) := by decide +kernel
theorem dX7_step_18 : decode cX7_step 18 = .ok (.if_icmp .gt 13, 3) := by decide +kernel
theorem dX7_step_21 : decode cX7_step 21 = .ok (.iload_n 3, 1) := by decide +kernel
theorem dX7_step_22 : decode cX7_step 22 = .ok (.ifCond .lt 9, 3) := by decide +kernel
theorem dX7_step_25 : decode cX7_step 25 = .ok (.iload_n 3, 1) := by decide +kernel
theorem dX7_step_26 : decode cX7_step 26 = .ok (.bipush 8, 2) := by decide +kernel
theorem dX7_step_28 : decode cX7_step 28 = .ok (.if_icmp .lt 5, 3) := by decide +kernel
theorem dX7_step_31 : decode cX7_step 31 = .ok (.iconst (-1), 1) := by decide +kernel
theorem dX7_step_32 : decode cX7_step 32 = .ok (.ireturn, 1) := by decide +kernel
theorem dX7_step_33 : decode cX7_step 33 = .ok (.aload_n 0, 1) := by decide +kernel
theorem dX7_step_34 : decode cX7_step 34 = .ok (.getfield 19, 3) := by decide +kernel
theorem dX7_step_37 : decode cX7_step 37 = .ok (.getfield 118, 3) := by decide +kernel
theorem dX7_step_40 : decode cX7_step 40 = .ok (.bipush 24, 2) := by decide +kernel
theorem dX7_step_42 : decode cX7_step 42 = .ok (.if_icmp .lt 6, 3) := by decide +kernel
theorem dX7_step_45 : decode cX7_step 45 = .ok (.bipush (-3), 2) := by decide +kernel
theorem dX7_step_47 : decode cX7_step 47 = .ok (.ireturn, 1) := by decide +kernel
theorem dX7_step_48 : decode cX7_step 48 = .ok (.aload_n 0, 1) := by decide +kernel
theorem dX7_step_49 : decode cX7_step 49 = .ok (.getfield 19, 3) := by decide +kernel
theorem dX7_step_52 : decode cX7_step 52 = .ok (.iload_n 1, 1) := by decide +kernel
theorem dX7_step_53 : decode cX7_step 53 = .ok (.iload_n 2, 1) := by decide +kernel
theorem dX7_step_54 : decode cX7_step 54 = .ok (.iload_n 3, 1) := by decide +kernel
theorem dX7_step_55 : decode cX7_step 55 = .ok (.invokevirtual 119, 3) := by decide +kernel
theorem dX7_step_58 : decode cX7_step 58 = .ok (.ireturn, 1) := by decide +kernel
theorem dX7_need_0 : decode cX7_need 0 = .ok (.aload_n 0, 1) := by decide +kernel
theorem dX7_need_1 : decode cX7_need 1 = .ok (.iload_n 1, 1) := by decide +kernel
theorem dX7_need_2 : decode cX7_need 2 = .ok (.invokevirtual 122, 3) := by decide +kernel
theorem dX7_need_5 : decode cX7_need 5 = .ok (.ifCond .eq 12, 3) := by decide +kernel
theorem dX7_need_8 : decode cX7_need 8 = .ok (.aload_n 0, 1) := by decide +kernel
theorem dX7_need_9 : decode cX7_need 9 = .ok (.iload_n 1, 1) := by decide +kernel
theorem dX7_need_10 : decode cX7_need 10 = .ok (.iload_n 2, 1) := by decide +kernel
theorem dX7_need_11 : decode cX7_need 11 = .ok (.invokevirtual 125, 3) := by decide +kernel
theorem dX7_need_14 : decode cX7_need 14 = .ok (.ifCond .ne 5, 3) := by decide +kernel
theorem dX7_need_17 : decode cX7_need 17 = .ok (.iconst (-1), 1) := by decide +kernel
theorem dX7_need_18 : decode cX7_need 18 = .ok (.ireturn, 1) := by decide +kernel
theorem dX7_need_19 : decode cX7_need 19 = .ok (.aload_n 0, 1) := by decide +kernel
theorem dX7_need_20 : decode cX7_need 20 = .ok (.getfield 19, 3) := by decide +kernel
theorem dX7_need_23 : decode cX7_need 23 = .ok (.getfield 128, 3) := by decide +kernel
theorem dX7_need_26 : decode cX7_need 26 = .ok (.iload_n 1, 1) := by decide +kernel
theorem dX7_need_27 : decode cX7_need 27 = .ok (.iushr, 1) := by decide +kernel
theorem dX7_need_28 : decode cX7_need 28 = .ok (.iconst 1, 1) := by decide +kernel
theorem dX7_need_29 : decode cX7_need 29 = .ok (.iand, 1) := by decide +kernel
theorem dX7_need_30 : decode cX7_need 30 = .ok (.ifCond .eq 6, 3) := by decide +kernel
theorem dX7_need_33 : decode cX7_need 33 = .ok (.bipush (-2), 2) := by decide +kernel
theorem dX7_need_35 : decode cX7_need 35 = .ok (.ireturn, 1) := by decide +kernel
theorem dX7_need_36 : decode cX7_need 36 = .ok (.aload_n 0, 1) := by decide +kernel
theorem dX7_need_37 : decode cX7_need 37 = .ok (.getfield 19, 3) := by decide +kernel
theorem dX7_need_40 : decode cX7_need 40 = .ok (.getfield 131, 3) := by decide +kernel
theorem dX7_need_43 : decode cX7_need 43 = .ok (.iload_n 1, 1) := by decide +kernel
theorem dX7_need_44 : decode cX7_need 44 = .ok (.iaload, 1) := by decide +kernel
theorem dX7_need_45 : decode cX7_need 45 = .ok (.iconst 4, 1) := by decide +kernel
theorem dX7_need_46 : decode cX7_need 46 = .ok (.if_icmp .lt 6, 3) := by decide +kernel
theorem dX7_need_49 : decode cX7_need 49 = .ok (.bipush (-3), 2) := by decide +kernel
theorem dX7_need_51 : decode cX7_need 51 = .ok (.ireturn, 1) := by decide +kernel
theorem dX7_need_52 : decode cX7_need 52 = .ok (.aload_n 0, 1) := by decide +kernel
theorem dX7_need_53 : decode cX7_need 53 = .ok (.getfield 19, 3) := by decide +kernel
theorem dX7_need_56 : decode cX7_need 56 = .ok (.iload_n 1, 1) := by decide +kernel
theorem dX7_need_57 : decode cX7_need 57 = .ok (.iload_n 2, 1) := by decide +kernel
theorem dX7_need_58 : decode cX7_need 58 = .ok (.invokevirtual 135, 3) := by decide +kernel
theorem dX7_need_61 : decode cX7_need 61 = .ok (.ireturn, 1) := by decide +kernel
theorem dX7_made_0 : decode cX7_made 0 = .ok (.iload_n 1, 1) := by decide +kernel
theorem dX7_made_1 : decode cX7_made 1 = .ok (.invokestatic 93, 3) := by decide +kernel
theorem dX7_made_4 : decode cX7_made 4 = .ok (.ifCond .eq 11, 3) := by decide +kernel
theorem dX7_made_7 : decode cX7_made 7 = .ok (.aload_n 0, 1) := by decide +kernel
theorem dX7_made_8 : decode cX7_made 8 = .ok (.iload_n 2, 1) := by decide +kernel
theorem dX7_made_9 : decode cX7_made 9 = .ok (.invokevirtual 122, 3) := by decide +kernel
theorem dX7_made_12 : decode cX7_made 12 = .ok (.ifCond .ne 5, 3) := by decide +kernel
theorem dX7_made_15 : decode cX7_made 15 = .ok (.iconst (-1), 1) := by decide +kernel
theorem dX7_made_16 : decode cX7_made 16 = .ok (.ireturn, 1) := by decide +kernel
theorem dX7_made_17 : decode cX7_made 17 = .ok (.aload_n 0, 1) := by decide +kernel
theorem dX7_made_18 : decode cX7_made 18 = .ok (.getfield 33, 3) := by decide +kernel
theorem dX7_made_21 : decode cX7_made 21 = .ok (.aload_n 0, 1) := by decide +kernel
theorem dX7_made_22 : decode cX7_made 22 = .ok (.getfield 25, 3) := by decide +kernel
theorem dX7_made_25 : decode cX7_made 25 = .ok (.iload_n 1, 1) := by decide +kernel
theorem dX7_made_26 : decode cX7_made 26 = .ok (.aaload, 1) := by decide +kernel
theorem dX7_made_27 : decode cX7_made 27 = .ok (.iload_n 2, 1) := by decide +kernel
theorem dX7_made_28 : decode cX7_made 28 = .ok (.invokevirtual 138, 3) := by decide +kernel
theorem dX7_made_31 : decode cX7_made 31 = .ok (.aload_n 0, 1) := by decide +kernel
theorem dX7_made_32 : decode cX7_made 32 = .ok (.getfield 33, 3) := by decide +kernel
theorem dX7_made_35 : decode cX7_made 35 = .ok (.getfield 142, 3) := by decide +kernel
theorem dX7_made_38 : decode cX7_made 38 = .ok (.iload_n 2, 1) := by decide +kernel
theorem dX7_made_39 : decode cX7_made 39 = .ok (.baload, 1) := by decide +kernel
theorem dX7_made_40 : decode cX7_made 40 = .ok (.ifCond .eq 8, 3) := by decide +kernel
theorem dX7_made_43 : decode cX7_made 43 = .ok (.bipush (-2), 2) := by decide +kernel
theorem dX7_made_45 : decode cX7_made 45 = .ok (.goto 15, 3) := by decide +kernel
theorem dX7_made_48 : decode cX7_made 48 = .ok (.aload_n 0, 1) := by decide +kernel
theorem dX7_made_49 : decode cX7_made 49 = .ok (.getfield 33, 3) := by decide +kernel
theorem dX7_made_52 : decode cX7_made 52 = .ok (.getfield 146, 3) := by decide +kernel
theorem dX7_made_55 : decode cX7_made 55 = .ok (.iload_n 2, 1) := by decide +kernel
theorem dX7_made_56 : decode cX7_made 56 = .ok (.aaload, 1) := by decide +kernel
theorem dX7_made_57 : decode cX7_made 57 = .ok (.getfield 65, 3) := by decide +kernel
theorem dX7_made_60 : decode cX7_made 60 = .ok (.ireturn, 1) := by decide +kernel
theorem dX7_at_0 : decode cX7_at 0 = .ok (.iload_n 1, 1) := by decide +kernel
theorem dX7_at_1 : decode cX7_at 1 = .ok (.invokestatic 93, 3) := by decide +kernel
theorem dX7_at_4 : decode cX7_at 4 = .ok (.ifCond .eq 22, 3) := by decide +kernel
theorem dX7_at_7 : decode cX7_at 7 = .ok (.aload_n 0, 1) := by decide +kernel
theorem dX7_at_8 : decode cX7_at 8 = .ok (.iload_n 2, 1) := by decide +kernel
theorem dX7_at_9 : decode cX7_at 9 = .ok (.invokevirtual 122, 3) := by decide +kernel
theorem dX7_at_12 : decode cX7_at 12 = .ok (.ifCond .eq 14, 3) := by decide +kernel
theorem dX7_at_15 : decode cX7_at 15 = .ok (.iload_n 3, 1) := by decide +kernel
theorem dX7_at_16 : decode cX7_at 16 = .ok (.ifCond .lt 10, 3) := by decide +kernel
theorem dX7_at_19 : decode cX7_at 19 = .ok (.iload_n 3, 1) := by decide +kernel
theorem dX7_at_20 : decode cX7_at 20 = .ok (.sipush 200, 3) := by decide +kernel
theorem dX7_at_23 : decode cX7_at 23 = .ok (.if_icmp .lt 5, 3) := by decide +kernel
theorem dX7_at_26 : decode cX7_at 26 = .ok (.iconst (-1), 1) := by decide +kernel
theorem dX7_at_27 : decode cX7_at 27 = .ok (.ireturn, 1) := by decide +kernel
theorem dX7_at_28 : decode cX7_at 28 = .ok (.aload_n 0, 1) := by decide +kernel
theorem dX7_at_29 : decode cX7_at 29 = .ok (.getfield 33, 3) := by decide +kernel
theorem dX7_at_32 : decode cX7_at 32 = .ok (.aload_n 0, 1) := by decide +kernel
theorem dX7_at_33 : decode cX7_at 33 = .ok (.getfield 25, 3) := by decide +kernel
theorem dX7_at_36 : decode cX7_at 36 = .ok (.iload_n 1, 1) := by decide +kernel
theorem dX7_at_37 : decode cX7_at 37 = .ok (.aaload, 1) := by decide +kernel
theorem dX7_at_38 : decode cX7_at 38 = .ok (.iload_n 2, 1) := by decide +kernel
theorem dX7_at_39 : decode cX7_at 39 = .ok (.invokevirtual 138, 3) := by decide +kernel
theorem dX7_at_42 : decode cX7_at 42 = .ok (.aload_n 0, 1) := by decide +kernel
theorem dX7_at_43 : decode cX7_at 43 = .ok (.getfield 33, 3) := by decide +kernel
theorem dX7_at_46 : decode cX7_at 46 = .ok (.getfield 142, 3) := by decide +kernel
theorem dX7_at_49 : decode cX7_at 49 = .ok (.iload_n 2, 1) := by decide +kernel
theorem dX7_at_50 : decode cX7_at 50 = .ok (.baload, 1) := by decide +kernel
theorem dX7_at_51 : decode cX7_at 51 = .ok (.ifCond .eq 6, 3) := by decide +kernel
theorem dX7_at_54 : decode cX7_at 54 = .ok (.bipush (-2), 2) := by decide +kernel
theorem dX7_at_56 : decode cX7_at 56 = .ok (.ireturn, 1) := by decide +kernel
theorem dX7_at_57 : decode cX7_at 57 = .ok (.aload_n 0, 1) := by decide +kernel
theorem dX7_at_58 : decode cX7_at 58 = .ok (.getfield 33, 3) := by decide +kernel
theorem dX7_at_61 : decode cX7_at 61 = .ok (.getfield 146, 3) := by decide +kernel
theorem dX7_at_64 : decode cX7_at 64 = .ok (.iload_n 2, 1) := by decide +kernel
theorem dX7_at_65 : decode cX7_at 65 = .ok (.aaload, 1) := by decide +kernel
theorem dX7_at_66 : decode cX7_at 66 = .ok (.astore 4, 2) := by decide +kernel
theorem dX7_at_68 : decode cX7_at 68 = .ok (.iload_n 3, 1) := by decide +kernel
theorem dX7_at_69 : decode cX7_at 69 = .ok (.aload 4, 2) := by decide +kernel
theorem dX7_at_71 : decode cX7_at 71 = .ok (.getfield 65, 3) := by decide +kernel
theorem dX7_at_74 : decode cX7_at 74 = .ok (.if_icmp .ge 13, 3) := by decide +kernel
theorem dX7_at_77 : decode cX7_at 77 = .ok (.aload 4, 2) := by decide +kernel
theorem dX7_at_79 : decode cX7_at 79 = .ok (.getfield 150, 3) := by decide +kernel
theorem dX7_at_82 : decode cX7_at 82 = .ok (.iload_n 3, 1) := by decide +kernel
theorem dX7_at_83 : decode cX7_at 83 = .ok (.iaload, 1) := by decide +kernel
theorem dX7_at_84 : decode cX7_at 84 = .ok (.goto 4, 3) := by decide +kernel
theorem dX7_at_87 : decode cX7_at 87 = .ok (.iconst (-1), 1) := by decide +kernel
theorem dX7_at_88 : decode cX7_at 88 = .ok (.ireturn, 1) := by decide +kernel
theorem dX7_reads_0 : decode cX7_reads 0 = .ok (.iload_n 1, 1) := by decide +kernel
theorem dX7_reads_1 : decode cX7_reads 1 = .ok (.invokestatic 93, 3) := by decide +kernel
theorem dX7_reads_4 : decode cX7_reads 4 = .ok (.ifCond .eq 18, 3) := by decide +kernel
theorem dX7_reads_7 : decode cX7_reads 7 = .ok (.aload_n 0, 1) := by decide +kernel
theorem dX7_reads_8 : decode cX7_reads 8 = .ok (.iload_n 2, 1) := by decide +kernel
theorem dX7_reads_9 : decode cX7_reads 9 = .ok (.invokevirtual 122, 3) := by decide +kernel
theorem dX7_reads_12 : decode cX7_reads 12 = .ok (.ifCond .eq 10, 3) := by decide +kernel
theorem dX7_reads_15 : decode cX7_reads 15 = .ok (.iload_n 3, 1) := by decide +kernel
theorem dX7_reads_16 : decode cX7_reads 16 = .ok (.invokestatic 83, 3) := by decide +kernel
theorem dX7_reads_19 : decode cX7_reads 19 = .ok (.ifCond .ne 5, 3) := by decide +kernel
theorem dX7_reads_22 : decode cX7_reads 22 = .ok (.iconst (-1), 1) := by decide +kernel
theorem dX7_reads_23 : decode cX7_reads 23 = .ok (.ireturn, 1) := by decide +kernel
theorem dX7_reads_24 : decode cX7_reads 24 = .ok (.aload_n 0, 1) := by decide +kernel
theorem dX7_reads_25 : decode cX7_reads 25 = .ok (.getfield 33, 3) := by decide +kernel
theorem dX7_reads_28 : decode cX7_reads 28 = .ok (.aload_n 0, 1) := by decide +kernel
theorem dX7_reads_29 : decode cX7_reads 29 = .ok (.getfield 25, 3) := by decide +kernel
theorem dX7_reads_32 : decode cX7_reads 32 = .ok (.iload_n 1, 1) := by decide +kernel
theorem dX7_reads_33 : decode cX7_reads 33 = .ok (.aaload, 1) := by decide +kernel
theorem dX7_reads_34 : decode cX7_reads 34 = .ok (.iload_n 2, 1) := by decide +kernel
theorem dX7_reads_35 : decode cX7_reads 35 = .ok (.invokevirtual 138, 3) := by decide +kernel
theorem dX7_reads_38 : decode cX7_reads 38 = .ok (.aload_n 0, 1) := by decide +kernel
theorem dX7_reads_39 : decode cX7_reads 39 = .ok (.getfield 33, 3) := by decide +kernel
theorem dX7_reads_42 : decode cX7_reads 42 = .ok (.iload_n 3, 1) := by decide +kernel
theorem dX7_reads_43 : decode cX7_reads 43 = .ok (.ifCond .ne 9, 3) := by decide +kernel
theorem dX7_reads_46 : decode cX7_reads 46 = .ok (.iconst 1, 1) := by decide +kernel
theorem dX7_reads_47 : decode cX7_reads 47 = .ok (.iload_n 2, 1) := by decide +kernel
theorem dX7_reads_48 : decode cX7_reads 48 = .ok (.ishl, 1) := by decide +kernel
theorem dX7_reads_49 : decode cX7_reads 49 = .ok (.goto 12, 3) := by decide +kernel
theorem dX7_reads_52 : decode cX7_reads 52 = .ok (.aload_n 0, 1) := by decide +kernel
theorem dX7_reads_53 : decode cX7_reads 53 = .ok (.getfield 19, 3) := by decide +kernel
theorem dX7_reads_56 : decode cX7_reads 56 = .ok (.getfield 153, 3) := by decide +kernel
theorem dX7_reads_59 : decode cX7_reads 59 = .ok (.iload_n 2, 1) := by decide +kernel
theorem dX7_reads_60 : decode cX7_reads 60 = .ok (.iaload, 1) := by decide +kernel
theorem dX7_reads_61 : decode cX7_reads 61 = .ok (.invokevirtual 156, 3) := by decide +kernel
theorem dX7_reads_64 : decode cX7_reads 64 = .ok (.ireturn, 1) := by decide +kernel
theorem dX7_uses_0 : decode cX7_uses 0 = .ok (.aload_n 0, 1) := by decide +kernel
theorem dX7_uses_1 : decode cX7_uses 1 = .ok (.iload_n 1, 1) := by decide +kernel
theorem dX7_uses_2 : decode cX7_uses 2 = .ok (.invokevirtual 122, 3) := by decide +kernel
theorem dX7_uses_5 : decode cX7_uses 5 = .ok (.ifCond .eq 10, 3) := by decide +kernel
theorem dX7_uses_8 : decode cX7_uses 8 = .ok (.iload_n 2, 1) := by decide +kernel
theorem dX7_uses_9 : decode cX7_uses 9 = .ok (.invokestatic 83, 3) := by decide +kernel
theorem dX7_uses_12 : decode cX7_uses 12 = .ok (.ifCond .ne 5, 3) := by decide +kernel
theorem dX7_uses_15 : decode cX7_uses 15 = .ok (.iconst (-1), 1) := by decide +kernel
theorem dX7_uses_16 : decode cX7_uses 16 = .ok (.ireturn, 1) := by decide +kernel
theorem dX7_uses_17 : decode cX7_uses 17 = .ok (.iload_n 2, 1) := by decide +kernel
theorem dX7_uses_18 : decode cX7_uses 18 = .ok (.ifCond .ne 15, 3) := by decide +kernel
theorem dX7_uses_21 : decode cX7_uses 21 = .ok (.aload_n 0, 1) := by decide +kernel
theorem dX7_uses_22 : decode cX7_uses 22 = .ok (.getfield 19, 3) := by decide +kernel
theorem dX7_uses_25 : decode cX7_uses 25 = .ok (.getfield 153, 3) := by decide +kernel
theorem dX7_uses_28 : decode cX7_uses 28 = .ok (.iload_n 1, 1) := by decide +kernel
theorem dX7_uses_29 : decode cX7_uses 29 = .ok (.iaload, 1) := by decide +kernel
theorem dX7_uses_30 : decode cX7_uses 30 = .ok (.goto 12, 3) := by decide +kernel
theorem dX7_uses_33 : decode cX7_uses 33 = .ok (.aload_n 0, 1) := by decide +kernel
theorem dX7_uses_34 : decode cX7_uses 34 = .ok (.getfield 19, 3) := by decide +kernel
theorem dX7_uses_37 : decode cX7_uses 37 = .ok (.getfield 159, 3) := by decide +kernel
theorem dX7_uses_40 : decode cX7_uses 40 = .ok (.iload_n 1, 1) := by decide +kernel
theorem dX7_uses_41 : decode cX7_uses 41 = .ok (.iaload, 1) := by decide +kernel
theorem dX7_uses_42 : decode cX7_uses 42 = .ok (.ireturn, 1) := by decide +kernel
theorem dX7_orders_0 : decode cX7_orders 0 = .ok (.aload_n 0, 1) := by decide +kernel
theorem dX7_orders_1 : decode cX7_orders 1 = .ok (.iload_n 1, 1) := by decide +kernel
theorem dX7_orders_2 : decode cX7_orders 2 = .ok (.invokevirtual 122, 3) := by decide +kernel
theorem dX7_orders_5 : decode cX7_orders 5 = .ok (.ifCond .ne 7, 3) := by decide +kernel
theorem dX7_orders_8 : decode cX7_orders 8 = .ok (.ldc2_w 162, 3) := by decide +kernel
theorem dX7_orders_11 : decode cX7_orders 11 = .ok (.lreturn, 1) := by decide +kernel
theorem dX7_orders_12 : decode cX7_orders 12 = .ok (.aload_n 0, 1) := by decide +kernel
theorem dX7_orders_13 : decode cX7_orders 13 = .ok (.getfield 19, 3) := by decide +kernel
theorem dX7_orders_16 : decode cX7_orders 16 = .ok (.getfield 153, 3) := by decide +kernel
theorem dX7_orders_19 : decode cX7_orders 19 = .ok (.iload_n 1, 1) := by decide +kernel
theorem dX7_orders_20 : decode cX7_orders 20 = .ok (.iaload, 1) := by decide +kernel
theorem dX7_orders_21 : decode cX7_orders 21 = .ok (.invokestatic 107, 3) := by decide +kernel
theorem dX7_orders_24 : decode cX7_orders 24 = .ok (.bipush 16, 2) := by decide +kernel
theorem dX7_orders_26 : decode cX7_orders 26 = .ok (.if_icmp .le 7, 3) := by decide +kernel
theorem dX7_orders_29 : decode cX7_orders 29 = .ok (.ldc2_w 164, 3) := by decide +kernel
theorem dX7_orders_32 : decode cX7_orders 32 = .ok (.lreturn, 1) := by decide +kernel
theorem dX7_orders_33 : decode cX7_orders 33 = .ok (.aload_n 0, 1) := by decide +kernel
theorem dX7_orders_34 : decode cX7_orders 34 = .ok (.getfield 50, 3) := by decide +kernel
theorem dX7_orders_37 : decode cX7_orders 37 = .ok (.aload_n 0, 1) := by decide +kernel
theorem dX7_orders_38 : decode cX7_orders 38 = .ok (.getfield 19, 3) := by decide +kernel
theorem dX7_orders_41 : decode cX7_orders 41 = .ok (.iload_n 1, 1) := by decide +kernel
theorem dX7_orders_42 : decode cX7_orders 42 = .ok (.invokevirtual 166, 3) := by decide +kernel
theorem dX7_orders_45 : decode cX7_orders 45 = .ok (.lreturn, 1) := by decide +kernel
theorem dX7_built_0 : decode cX7_built 0 = .ok (.iload_n 1, 1) := by decide +kernel
theorem dX7_built_1 : decode cX7_built 1 = .ok (.invokestatic 93, 3) := by decide +kernel
theorem dX7_built_4 : decode cX7_built 4 = .ok (.ifCond .ne 5, 3) := by decide +kernel
theorem dX7_built_7 : decode cX7_built 7 = .ok (.iconst (-1), 1) := by decide +kernel
theorem dX7_built_8 : decode cX7_built 8 = .ok (.ireturn, 1) := by decide +kernel
theorem dX7_built_9 : decode cX7_built 9 = .ok (.aload_n 0, 1) := by decide +kernel
theorem dX7_built_10 : decode cX7_built 10 = .ok (.getfield 33, 3) := by decide +kernel
theorem dX7_built_13 : decode cX7_built 13 = .ok (.aload_n 0, 1) := by decide +kernel
theorem dX7_built_14 : decode cX7_built 14 = .ok (.getfield 25, 3) := by decide +kernel
theorem dX7_built_17 : decode cX7_built 17 = .ok (.iload_n 1, 1) := by decide +kernel
theorem dX7_built_18 : decode cX7_built 18 = .ok (.aaload, 1) := by decide +kernel
theorem dX7_built_19 : decode cX7_built 19 = .ok (.invokevirtual 170, 3) := by decide +kernel
theorem dX7_built_22 : decode cX7_built 22 = .ok (.aload_n 0, 1) := by decide +kernel
theorem dX7_built_23 : decode cX7_built 23 = .ok (.getfield 33, 3) := by decide +kernel
theorem dX7_built_26 : decode cX7_built 26 = .ok (.iconst (-1), 1) := by decide +kernel
theorem dX7_built_27 : decode cX7_built 27 = .ok (.invokevirtual 174, 3) := by decide +kernel
theorem dX7_built_30 : decode cX7_built 30 = .ok (.iconst 0, 1) := by decide +kernel
theorem dX7_built_31 : decode cX7_built 31 = .ok (.istore_n 2, 1) := by decide +kernel
theorem dX7_built_32 : decode cX7_built 32 = .ok (.iconst 0, 1) := by decide +kernel
theorem dX7_built_33 : decode cX7_built 33 = .ok (.istore_n 3, 1) := by decide +kernel
theorem dX7_built_34 : decode cX7_built 34 = .ok (.iload_n 3, 1) := by decide +kernel
theorem dX7_built_35 : decode cX7_built 35 = .ok (.aload_n 0, 1) := by decide +kernel
theorem dX7_built_36 : decode cX7_built 36 = .ok (.getfield 19, 3) := by decide +kernel
theorem dX7_built_39 : decode cX7_built 39 = .ok (.getfield 118, 3) := by decide +kernel
theorem dX7_built_42 : decode cX7_built 42 = .ok (.if_icmp .ge 29, 3) := by decide +kernel
theorem dX7_built_45 : decode cX7_built 45 = .ok (.iload_n 2, 1) := by decide +kernel
theorem dX7_built_46 : decode cX7_built 46 = .ok (.aload_n 0, 1) := by decide +kernel
theorem dX7_built_47 : decode cX7_built 47 = .ok (.getfield 33, 3) := by decide +kernel
theorem dX7_built_50 : decode cX7_built 50 = .ok (.getfield 142, 3) := by decide +kernel
theorem dX7_built_53 : decode cX7_built 53 = .ok (.iload_n 3, 1) := by decide +kernel
theorem dX7_built_54 : decode cX7_built 54 = .ok (.baload, 1) := by decide +kernel
theorem dX7_built_55 : decode cX7_built 55 = .ok (.ifCond .eq 7, 3) := by decide +kernel
theorem dX7_built_58 : decode cX7_built 58 = .ok (.iconst 0, 1) := by decide +kernel
theorem dX7_built_59 : decode cX7_built 59 = .ok (.goto 4, 3) := by decide +kernel
theorem dX7_built_62 : decode cX7_built 62 = .ok (.iconst 1, 1) := by decide +kernel
theorem dX7_built_63 : decode cX7_built 63 = .ok (.iadd, 1) := by decide +kernel
theorem dX7_built_64 : decode cX7_built 64 = .ok (.istore_n 2, 1) := by decide +kernel
theorem dX7_built_65 : decode cX7_built 65 = .ok (.iinc 3 1, 3) := by decide +kernel
theorem dX7_built_68 : decode cX7_built 68 = .ok (.goto (-34), 3) := by decide +kernel
theorem dX7_built_71 : decode cX7_built 71 = .ok (.iload_n 2, 1) := by decide +kernel
theorem dX7_built_72 : decode cX7_built 72 = .ok (.ireturn, 1) := by decide +kernel
theorem dX7_alike_0 : decode cX7_alike 0 = .ok (.iload_n 1, 1) := by decide +kernel
theorem dX7_alike_1 : decode cX7_alike 1 = .ok (.iload_n 2, 1) := by decide +kernel
theorem dX7_alike_2 : decode cX7_alike 2 = .ok (.invokestatic 99, 3) := by decide +kernel
theorem dX7_alike_5 : decode cX7_alike 5 = .ok (.ifCond .eq 11, 3) := by decide +kernel
theorem dX7_alike_8 : decode cX7_alike 8 = .ok (.aload_n 0, 1) := by decide +kernel
theorem dX7_alike_9 : decode cX7_alike 9 = .ok (.iload_n 3, 1) := by decide +kernel
theorem dX7_alike_10 : decode cX7_alike 10 = .ok (.invokevirtual 122, 3) := by decide +kernel
theorem dX7_alike_13 : decode cX7_alike 13 = .ok (.ifCond .ne 5, 3) := by decide +kernel
theorem dX7_alike_16 : decode cX7_alike 16 = .ok (.iconst (-1), 1) := by decide +kernel
theorem dX7_alike_17 : decode cX7_alike 17 = .ok (.ireturn, 1) := by decide +kernel
theorem dX7_alike_18 : decode cX7_alike 18 = .ok (.aload_n 0, 1) := by decide +kernel
theorem dX7_alike_19 : decode cX7_alike 19 = .ok (.iload_n 1, 1) := by decide +kernel
theorem dX7_alike_20 : decode cX7_alike 20 = .ok (.iload_n 2, 1) := by decide +kernel
theorem dX7_alike_21 : decode cX7_alike 21 = .ok (.iload_n 3, 1) := by decide +kernel
theorem dX7_alike_22 : decode cX7_alike 22 = .ok (.invokevirtual 178, 3) := by decide +kernel
theorem dX7_alike_25 : decode cX7_alike 25 = .ok (.aload_n 0, 1) := by decide +kernel
theorem dX7_alike_26 : decode cX7_alike 26 = .ok (.iload_n 3, 1) := by decide +kernel
theorem dX7_alike_27 : decode cX7_alike 27 = .ok (.invokevirtual 182, 3) := by decide +kernel
theorem dX7_alike_30 : decode cX7_alike 30 = .ok (.ifCond .eq 7, 3) := by decide +kernel
theorem dX7_alike_33 : decode cX7_alike 33 = .ok (.iconst 1, 1) := by decide +kernel
theorem dX7_alike_34 : decode cX7_alike 34 = .ok (.goto 4, 3) := by decide +kernel
theorem dX7_alike_37 : decode cX7_alike 37 = .ok (.iconst 0, 1) := by decide +kernel
theorem dX7_alike_38 : decode cX7_alike 38 = .ok (.ireturn, 1) := by decide +kernel
theorem dX7_changes_0 : decode cX7_changes 0 = .ok (.iload_n 1, 1) := by decide +kernel
theorem dX7_changes_1 : decode cX7_changes 1 = .ok (.iload_n 2, 1) := by decide +kernel
theorem dX7_changes_2 : decode cX7_changes 2 = .ok (.invokestatic 99, 3) := by decide +kernel
theorem dX7_changes_5 : decode cX7_changes 5 = .ok (.ifCond .eq 11, 3) := by decide +kernel
theorem dX7_changes_8 : decode cX7_changes 8 = .ok (.aload_n 0, 1) := by decide +kernel
theorem dX7_changes_9 : decode cX7_changes 9 = .ok (.iload_n 3, 1) := by decide +kernel
theorem dX7_changes_10 : decode cX7_changes 10 = .ok (.invokevirtual 122, 3) := by decide +kernel
theorem dX7_changes_13 : decode cX7_changes 13 = .ok (.ifCond .ne 5, 3) := by decide +kernel
theorem dX7_changes_16 : decode cX7_changes 16 = .ok (.iconst (-1), 1) := by decide +kernel
theorem dX7_changes_17 : decode cX7_changes 17 = .ok (.ireturn, 1) := by decide +kernel
theorem dX7_changes_18 : decode cX7_changes 18 = .ok (.aload_n 0, 1) := by decide +kernel
theorem dX7_changes_19 : decode cX7_changes 19 = .ok (.iload_n 1, 1) := by decide +kernel
theorem dX7_changes_20 : decode cX7_changes 20 = .ok (.iload_n 2, 1) := by decide +kernel
theorem dX7_changes_21 : decode cX7_changes 21 = .ok (.iload_n 3, 1) := by decide +kernel
theorem dX7_changes_22 : decode cX7_changes 22 = .ok (.invokevirtual 178, 3) := by decide +kernel
theorem dX7_changes_25 : decode cX7_changes 25 = .ok (.aload_n 0, 1) := by decide +kernel
theorem dX7_changes_26 : decode cX7_changes 26 = .ok (.getfield 33, 3) := by decide +kernel
theorem dX7_changes_29 : decode cX7_changes 29 = .ok (.getfield 142, 3) := by decide +kernel
theorem dX7_changes_32 : decode cX7_changes 32 = .ok (.iload_n 3, 1) := by decide +kernel
theorem dX7_changes_33 : decode cX7_changes 33 = .ok (.baload, 1) := by decide +kernel
theorem dX7_changes_34 : decode cX7_changes 34 = .ok (.ifCond .ne 15, 3) := by decide +kernel
theorem dX7_changes_37 : decode cX7_changes 37 = .ok (.aload_n 0, 1) := by decide +kernel
theorem dX7_changes_38 : decode cX7_changes 38 = .ok (.getfield 37, 3) := by decide +kernel
theorem dX7_changes_41 : decode cX7_changes 41 = .ok (.getfield 142, 3) := by decide +kernel
theorem dX7_changes_44 : decode cX7_changes 44 = .ok (.iload_n 3, 1) := by decide +kernel
theorem dX7_changes_45 : decode cX7_changes 45 = .ok (.baload, 1) := by decide +kernel
theorem dX7_changes_46 : decode cX7_changes 46 = .ok (.ifCond .eq 6, 3) := by decide +kernel
theorem dX7_changes_49 : decode cX7_changes 49 = .ok (.bipush (-2), 2) := by decide +kernel
theorem dX7_changes_51 : decode cX7_changes 51 = .ok (.ireturn, 1) := by decide +kernel
theorem dX7_changes_52 : decode cX7_changes 52 = .ok (.aload_n 0, 1) := by decide +kernel
theorem dX7_changes_53 : decode cX7_changes 53 = .ok (.getfield 43, 3) := by decide +kernel
theorem dX7_changes_56 : decode cX7_changes 56 = .ok (.aload_n 0, 1) := by decide +kernel
theorem dX7_changes_57 : decode cX7_changes 57 = .ok (.getfield 33, 3) := by decide +kernel
theorem dX7_changes_60 : decode cX7_changes 60 = .ok (.getfield 146, 3) := by decide +kernel
theorem dX7_changes_63 : decode cX7_changes 63 = .ok (.iload_n 3, 1) := by decide +kernel
theorem dX7_changes_64 : decode cX7_changes 64 = .ok (.aaload, 1) := by decide +kernel
theorem dX7_changes_65 : decode cX7_changes 65 = .ok (.aload_n 0, 1) := by decide +kernel
theorem dX7_changes_66 : decode cX7_changes 66 = .ok (.getfield 37, 3) := by decide +kernel
theorem dX7_changes_69 : decode cX7_changes 69 = .ok (.getfield 146, 3) := by decide +kernel
theorem dX7_changes_72 : decode cX7_changes 72 = .ok (.iload_n 3, 1) := by decide +kernel
theorem dX7_changes_73 : decode cX7_changes 73 = .ok (.aaload, 1) := by decide +kernel
theorem dX7_changes_74 : decode cX7_changes 74 = .ok (.invokevirtual 185, 3) := by decide +kernel
theorem dX7_changes_77 : decode cX7_changes 77 = .ok (.aload_n 0, 1) := by decide +kernel
theorem dX7_changes_78 : decode cX7_changes 78 = .ok (.getfield 43, 3) := by decide +kernel
theorem dX7_changes_81 : decode cX7_changes 81 = .ok (.getfield 189, 3) := by decide +kernel
theorem dX7_changes_84 : decode cX7_changes 84 = .ok (.ireturn, 1) := by decide +kernel
theorem dX7_change_0 : decode cX7_change 0 = .ok (.iload_n 1, 1) := by decide +kernel
theorem dX7_change_1 : decode cX7_change 1 = .ok (.ifCond .lt 23, 3) := by decide +kernel
theorem dX7_change_4 : decode cX7_change 4 = .ok (.iload_n 1, 1) := by decide +kernel
theorem dX7_change_5 : decode cX7_change 5 = .ok (.aload_n 0, 1) := by decide +kernel
theorem dX7_change_6 : decode cX7_change 6 = .ok (.getfield 43, 3) := by decide +kernel
theorem dX7_change_9 : decode cX7_change 9 = .ok (.getfield 189, 3) := by decide +kernel
theorem dX7_change_12 : decode cX7_change 12 = .ok (.if_icmp .ge 12, 3) := by decide +kernel
theorem dX7_change_15 : decode cX7_change 15 = .ok (.iload_n 2, 1) := by decide +kernel
theorem dX7_change_16 : decode cX7_change 16 = .ok (.ifCond .lt 8, 3) := by decide +kernel
theorem dX7_change_19 : decode cX7_change 19 = .ok (.iload_n 2, 1) := by decide +kernel
theorem dX7_change_20 : decode cX7_change 20 = .ok (.iconst 2, 1) := by decide +kernel
theorem dX7_change_21 : decode cX7_change 21 = .ok (.if_icmp .le 5, 3) := by decide +kernel
theorem dX7_change_24 : decode cX7_change 24 = .ok (.iconst (-1), 1) := by decide +kernel
theorem dX7_change_25 : decode cX7_change 25 = .ok (.ireturn, 1) := by decide +kernel
theorem dX7_change_26 : decode cX7_change 26 = .ok (.iload_n 2, 1) := by decide +kernel
theorem dX7_change_27 : decode cX7_change 27 = .ok (.ifCond .ne 13, 3) := by decide +kernel
theorem dX7_change_30 : decode cX7_change 30 = .ok (.aload_n 0, 1) := by decide +kernel
theorem dX7_change_31 : decode cX7_change 31 = .ok (.getfield 43, 3) := by decide +kernel
theorem dX7_change_34 : decode cX7_change 34 = .ok (.getfield 190, 3) := by decide +kernel
theorem dX7_change_37 : decode cX7_change 37 = .ok (.iload_n 1, 1) := by decide +kernel
theorem dX7_change_38 : decode cX7_change 38 = .ok (.iaload, 1) := by decide +kernel
theorem dX7_change_39 : decode cX7_change 39 = .ok (.ireturn, 1) := by decide +kernel
theorem dX7_change_40 : decode cX7_change 40 = .ok (.iload_n 2, 1) := by decide +kernel
theorem dX7_change_41 : decode cX7_change 41 = .ok (.iconst 1, 1) := by decide +kernel
theorem dX7_change_42 : decode cX7_change 42 = .ok (.if_icmp .ne 15, 3) := by decide +kernel
theorem dX7_change_45 : decode cX7_change 45 = .ok (.aload_n 0, 1) := by decide +kernel
theorem dX7_change_46 : decode cX7_change 46 = .ok (.getfield 43, 3) := by decide +kernel
theorem dX7_change_49 : decode cX7_change 49 = .ok (.getfield 193, 3) := by decide +kernel
theorem dX7_change_52 : decode cX7_change 52 = .ok (.iload_n 1, 1) := by decide +kernel
theorem dX7_change_53 : decode cX7_change 53 = .ok (.iaload, 1) := by decide +kernel
theorem dX7_change_54 : decode cX7_change 54 = .ok (.goto 12, 3) := by decide +kernel
theorem dX7_change_57 : decode cX7_change 57 = .ok (.aload_n 0, 1) := by decide +kernel
theorem dX7_change_58 : decode cX7_change 58 = .ok (.getfield 43, 3) := by decide +kernel
theorem dX7_change_61 : decode cX7_change 61 = .ok (.getfield 196, 3) := by decide +kernel
theorem dX7_change_64 : decode cX7_change 64 = .ok (.iload_n 1, 1) := by decide +kernel
theorem dX7_change_65 : decode cX7_change 65 = .ok (.iaload, 1) := by decide +kernel
theorem dX7_change_66 : decode cX7_change 66 = .ok (.ireturn, 1) := by decide +kernel
theorem dX7_cause_0 : decode cX7_cause 0 = .ok (.iload_n 1, 1) := by decide +kernel
theorem dX7_cause_1 : decode cX7_cause 1 = .ok (.iload_n 2, 1) := by decide +kernel
theorem dX7_cause_2 : decode cX7_cause 2 = .ok (.invokestatic 99, 3) := by decide +kernel
theorem dX7_cause_5 : decode cX7_cause 5 = .ok (.ifCond .eq 11, 3) := by decide +kernel
theorem dX7_cause_8 : decode cX7_cause 8 = .ok (.aload_n 0, 1) := by decide +kernel
theorem dX7_cause_9 : decode cX7_cause 9 = .ok (.iload_n 3, 1) := by decide +kernel
theorem dX7_cause_10 : decode cX7_cause 10 = .ok (.invokevirtual 122, 3) := by decide +kernel
theorem dX7_cause_13 : decode cX7_cause 13 = .ok (.ifCond .ne 5, 3) := by decide +kernel
theorem dX7_cause_16 : decode cX7_cause 16 = .ok (.iconst (-1), 1) := by decide +kernel
theorem dX7_cause_17 : decode cX7_cause 17 = .ok (.ireturn, 1) := by decide +kernel
theorem dX7_cause_18 : decode cX7_cause 18 = .ok (.aload_n 0, 1) := by decide +kernel
theorem dX7_cause_19 : decode cX7_cause 19 = .ok (.iload_n 1, 1) := by decide +kernel
theorem dX7_cause_20 : decode cX7_cause 20 = .ok (.iload_n 2, 1) := by decide +kernel
theorem dX7_cause_21 : decode cX7_cause 21 = .ok (.iload_n 3, 1) := by decide +kernel
theorem dX7_cause_22 : decode cX7_cause 22 = .ok (.invokevirtual 178, 3) := by decide +kernel
theorem dX7_cause_25 : decode cX7_cause 25 = .ok (.aload_n 0, 1) := by decide +kernel
theorem dX7_cause_26 : decode cX7_cause 26 = .ok (.iload_n 3, 1) := by decide +kernel
theorem dX7_cause_27 : decode cX7_cause 27 = .ok (.invokevirtual 182, 3) := by decide +kernel
theorem dX7_cause_30 : decode cX7_cause 30 = .ok (.ifCond .eq 6, 3) := by decide +kernel
theorem dX7_cause_33 : decode cX7_cause 33 = .ok (.bipush (-2), 2) := by decide +kernel
theorem dX7_cause_35 : decode cX7_cause 35 = .ok (.ireturn, 1) := by decide +kernel
theorem dX7_cause_36 : decode cX7_cause 36 = .ok (.iconst 0, 1) := by decide +kernel
theorem dX7_cause_37 : decode cX7_cause 37 = .ok (.istore 4, 2) := by decide +kernel
theorem dX7_cause_39 : decode cX7_cause 39 = .ok (.iload 4, 2) := by decide +kernel
theorem dX7_cause_41 : decode cX7_cause 41 = .ok (.iload_n 3, 1) := by decide +kernel
theorem dX7_cause_42 : decode cX7_cause 42 = .ok (.if_icmp .ge 38, 3) := by decide +kernel
theorem dX7_cause_45 : decode cX7_cause 45 = .ok (.aload_n 0, 1) := by decide +kernel
theorem dX7_cause_46 : decode cX7_cause 46 = .ok (.getfield 19, 3) := by decide +kernel
theorem dX7_cause_49 : decode cX7_cause 49 = .ok (.getfield 153, 3) := by decide +kernel
theorem dX7_cause_52 : decode cX7_cause 52 = .ok (.iload_n 3, 1) := by decide +kernel
theorem dX7_cause_53 : decode cX7_cause 53 = .ok (.iaload, 1) := by decide +kernel
theorem dX7_cause_54 : decode cX7_cause 54 = .ok (.iload 4, 2) := by decide +kernel
theorem dX7_cause_56 : decode cX7_cause 56 = .ok (.iushr, 1) := by decide +kernel
theorem dX7_cause_57 : decode cX7_cause 57 = .ok (.iconst 1, 1) := by decide +kernel
theorem dX7_cause_58 : decode cX7_cause 58 = .ok (.iand, 1) := by decide +kernel
theorem dX7_cause_59 : decode cX7_cause 59 = .ok (.ifCond .eq 15, 3) := by decide +kernel
theorem dX7_cause_62 : decode cX7_cause 62 = .ok (.aload_n 0, 1) := by decide +kernel
theorem dX7_cause_63 : decode cX7_cause 63 = .ok (.iload 4, 2) := by decide +kernel
theorem dX7_cause_65 : decode cX7_cause 65 = .ok (.invokevirtual 182, 3) := by decide +kernel
theorem dX7_cause_68 : decode cX7_cause 68 = .ok (.ifCond .ne 6, 3) := by decide +kernel
theorem dX7_cause_71 : decode cX7_cause 71 = .ok (.iload 4, 2) := by decide +kernel
theorem dX7_cause_73 : decode cX7_cause 73 = .ok (.ireturn, 1) := by decide +kernel
theorem dX7_cause_74 : decode cX7_cause 74 = .ok (.iinc 4 1, 3) := by decide +kernel
theorem dX7_cause_77 : decode cX7_cause 77 = .ok (.goto (-38), 3) := by decide +kernel
theorem dX7_cause_80 : decode cX7_cause 80 = .ok (.iload_n 3, 1) := by decide +kernel
theorem dX7_cause_81 : decode cX7_cause 81 = .ok (.ireturn, 1) := by decide +kernel
theorem dX7_fix_0 : decode cX7_fix 0 = .ok (.iload_n 1, 1) := by decide +kernel
theorem dX7_fix_1 : decode cX7_fix 1 = .ok (.iload_n 2, 1) := by decide +kernel
theorem dX7_fix_2 : decode cX7_fix 2 = .ok (.invokestatic 99, 3) := by decide +kernel
theorem dX7_fix_5 : decode cX7_fix 5 = .ok (.ifCond .eq 11, 3) := by decide +kernel
theorem dX7_fix_8 : decode cX7_fix 8 = .ok (.aload_n 0, 1) := by decide +kernel
theorem dX7_fix_9 : decode cX7_fix 9 = .ok (.iload_n 3, 1) := by decide +kernel
theorem dX7_fix_10 : decode cX7_fix 10 = .ok (.invokevirtual 122, 3) := by decide +kernel
theorem dX7_fix_13 : decode cX7_fix 13 = .ok (.ifCond .ne 5, 3) := by decide +kernel
theorem dX7_fix_16 : decode cX7_fix 16 = .ok (.iconst (-1), 1) := by decide +kernel
theorem dX7_fix_17 : decode cX7_fix 17 = .ok (.ireturn, 1) := by decide +kernel
theorem dX7_fix_18 : decode cX7_fix 18 = .ok (.aload_n 0, 1) := by decide +kernel
theorem dX7_fix_19 : decode cX7_fix 19 = .ok (.iload_n 1, 1) := by decide +kernel
theorem dX7_fix_20 : decode cX7_fix 20 = .ok (.iload_n 2, 1) := by decide +kernel
theorem dX7_fix_21 : decode cX7_fix 21 = .ok (.iload_n 3, 1) := by decide +kernel
theorem dX7_fix_22 : decode cX7_fix 22 = .ok (.invokevirtual 178, 3) := by decide +kernel
theorem dX7_fix_25 : decode cX7_fix 25 = .ok (.aload_n 0, 1) := by decide +kernel
theorem dX7_fix_26 : decode cX7_fix 26 = .ok (.getfield 19, 3) := by decide +kernel
theorem dX7_fix_29 : decode cX7_fix 29 = .ok (.getfield 199, 3) := by decide +kernel
theorem dX7_fix_32 : decode cX7_fix 32 = .ok (.iload_n 3, 1) := by decide +kernel
theorem dX7_fix_33 : decode cX7_fix 33 = .ok (.iaload, 1) := by decide +kernel
theorem dX7_fix_34 : decode cX7_fix 34 = .ok (.aload_n 0, 1) := by decide +kernel
theorem dX7_fix_35 : decode cX7_fix 35 = .ok (.iload_n 1, 1) := by decide +kernel
theorem dX7_fix_36 : decode cX7_fix 36 = .ok (.iload_n 2, 1) := by decide +kernel
theorem dX7_fix_37 : decode cX7_fix 37 = .ok (.invokevirtual 103, 3) := by decide +kernel
theorem dX7_fix_40 : decode cX7_fix 40 = .ok (.iand, 1) := by decide +kernel
theorem dX7_fix_41 : decode cX7_fix 41 = .ok (.istore 4, 2) := by decide +kernel
theorem dX7_fix_43 : decode cX7_fix 43 = .ok (.iconst 0, 1) := by decide +kernel
theorem dX7_fix_44 : decode cX7_fix 44 = .ok (.istore 5, 2) := by decide +kernel
theorem dX7_fix_46 : decode cX7_fix 46 = .ok (.iload 5, 2) := by decide +kernel
theorem dX7_fix_48 : decode cX7_fix 48 = .ok (.bipush 8, 2) := by decide +kernel
theorem dX7_fix_50 : decode cX7_fix 50 = .ok (.if_icmp .gt 53, 3) := by decide +kernel
theorem dX7_fix_53 : decode cX7_fix 53 = .ok (.iconst 0, 1) := by decide +kernel
theorem dX7_fix_54 : decode cX7_fix 54 = .ok (.istore 6, 2) := by decide +kernel
theorem dX7_fix_56 : decode cX7_fix 56 = .ok (.iload 6, 2) := by decide +kernel
theorem dX7_fix_58 : decode cX7_fix 58 = .ok (.sipush 255, 3) := by decide +kernel
theorem dX7_fix_61 : decode cX7_fix 61 = .ok (.if_icmp .gt 36, 3) := by decide +kernel
theorem dX7_fix_64 : decode cX7_fix 64 = .ok (.iload 6, 2) := by decide +kernel
theorem dX7_fix_66 : decode cX7_fix 66 = .ok (.iload 4, 2) := by decide +kernel
theorem dX7_fix_68 : decode cX7_fix 68 = .ok (.iload 5, 2) := by decide +kernel
theorem dX7_fix_70 : decode cX7_fix 70 = .ok (.invokestatic 202, 3) := by decide +kernel
theorem dX7_fix_73 : decode cX7_fix 73 = .ok (.ifCond .eq 18, 3) := by decide +kernel
theorem dX7_fix_76 : decode cX7_fix 76 = .ok (.aload_n 0, 1) := by decide +kernel
theorem dX7_fix_77 : decode cX7_fix 77 = .ok (.iload 6, 2) := by decide +kernel
theorem dX7_fix_79 : decode cX7_fix 79 = .ok (.iload_n 1, 1) := by decide +kernel
theorem dX7_fix_80 : decode cX7_fix 80 = .ok (.iload_n 2, 1) := by decide +kernel
theorem dX7_fix_81 : decode cX7_fix 81 = .ok (.iload_n 3, 1) := by decide +kernel
theorem dX7_fix_82 : decode cX7_fix 82 = .ok (.invokevirtual 206, 3) := by decide +kernel
theorem dX7_fix_85 : decode cX7_fix 85 = .ok (.ifCond .eq 6, 3) := by decide +kernel
theorem dX7_fix_88 : decode cX7_fix 88 = .ok (.iload 6, 2) := by decide +kernel
theorem dX7_fix_90 : decode cX7_fix 90 = .ok (.ireturn, 1) := by decide +kernel
theorem dX7_fix_91 : decode cX7_fix 91 = .ok (.iinc 6 1, 3) := by decide +kernel
theorem dX7_fix_94 : decode cX7_fix 94 = .ok (.goto (-38), 3) := by decide +kernel
theorem dX7_fix_97 : decode cX7_fix 97 = .ok (.iinc 5 1, 3) := by decide +kernel
theorem dX7_fix_100 : decode cX7_fix 100 = .ok (.goto (-54), 3) := by decide +kernel
theorem dX7_fix_103 : decode cX7_fix 103 = .ok (.iload 4, 2) := by decide +kernel
theorem dX7_fix_105 : decode cX7_fix 105 = .ok (.ireturn, 1) := by decide +kernel
theorem dX7_stable_0 : decode cX7_stable 0 = .ok (.iload_n 1, 1) := by decide +kernel
theorem dX7_stable_1 : decode cX7_stable 1 = .ok (.invokestatic 93, 3) := by decide +kernel
theorem dX7_stable_4 : decode cX7_stable 4 = .ok (.ifCond .eq 31, 3) := by decide +kernel
theorem dX7_stable_7 : decode cX7_stable 7 = .ok (.aload_n 0, 1) := by decide +kernel
theorem dX7_stable_8 : decode cX7_stable 8 = .ok (.iload_n 2, 1) := by decide +kernel
theorem dX7_stable_9 : decode cX7_stable 9 = .ok (.invokevirtual 122, 3) := by decide +kernel
theorem dX7_stable_12 : decode cX7_stable 12 = .ok (.ifCond .eq 23, 3) := by decide +kernel
theorem dX7_stable_15 : decode cX7_stable 15 = .ok (.iload_n 3, 1) := by decide +kernel
theorem dX7_stable_16 : decode cX7_stable 16 = .ok (.invokestatic 96, 3) := by decide +kernel
theorem dX7_stable_19 : decode cX7_stable 19 = .ok (.ifCond .eq 16, 3) := by decide +kernel
theorem dX7_stable_22 : decode cX7_stable 22 = .ok (.iload 4, 2) := by decide +kernel
theorem dX7_stable_24 : decode cX7_stable 24 = .ok (.ifCond .lt 11, 3) := by decide +kernel
theorem dX7_stable_27 : decode cX7_stable 27 = .ok (.iload 4, 2) := by decide +kernel
theorem dX7_stable_29 : decode cX7_stable 29 = .ok (.sipush 255, 3) := by decide +kernel
theorem dX7_stable_32 : decode cX7_stable 32 = .ok (.if_icmp .le 5, 3) := by decide +kernel
theorem dX7_stable_35 : decode cX7_stable 35 = .ok (.iconst (-1), 1) := by decide +kernel
theorem dX7_stable_36 : decode cX7_stable 36 = .ok (.ireturn, 1) := by decide +kernel
theorem dX7_stable_37 : decode cX7_stable 37 = .ok (.aload_n 0, 1) := by decide +kernel
theorem dX7_stable_38 : decode cX7_stable 38 = .ok (.iload_n 1, 1) := by decide +kernel
theorem dX7_stable_39 : decode cX7_stable 39 = .ok (.iload_n 2, 1) := by decide +kernel
theorem dX7_stable_40 : decode cX7_stable 40 = .ok (.iload_n 3, 1) := by decide +kernel
theorem dX7_stable_41 : decode cX7_stable 41 = .ok (.iload 4, 2) := by decide +kernel
theorem dX7_stable_43 : decode cX7_stable 43 = .ok (.invokevirtual 210, 3) := by decide +kernel
theorem dX7_stable_46 : decode cX7_stable 46 = .ok (.iconst (-1), 1) := by decide +kernel
theorem dX7_stable_47 : decode cX7_stable 47 = .ok (.if_icmp .ne 7, 3) := by decide +kernel
theorem dX7_stable_50 : decode cX7_stable 50 = .ok (.iconst 1, 1) := by decide +kernel
theorem dX7_stable_51 : decode cX7_stable 51 = .ok (.goto 4, 3) := by decide +kernel
theorem dX7_stable_54 : decode cX7_stable 54 = .ok (.iconst 0, 1) := by decide +kernel
theorem dX7_stable_55 : decode cX7_stable 55 = .ok (.ireturn, 1) := by decide +kernel
theorem dX7_breaks_0 : decode cX7_breaks 0 = .ok (.iload_n 1, 1) := by decide +kernel
theorem dX7_breaks_1 : decode cX7_breaks 1 = .ok (.invokestatic 93, 3) := by decide +kernel
theorem dX7_breaks_4 : decode cX7_breaks 4 = .ok (.ifCond .eq 18, 3) := by decide +kernel
theorem dX7_breaks_7 : decode cX7_breaks 7 = .ok (.aload_n 0, 1) := by decide +kernel
theorem dX7_breaks_8 : decode cX7_breaks 8 = .ok (.iload_n 2, 1) := by decide +kernel
theorem dX7_breaks_9 : decode cX7_breaks 9 = .ok (.invokevirtual 122, 3) := by decide +kernel
theorem dX7_breaks_12 : decode cX7_breaks 12 = .ok (.ifCond .eq 10, 3) := by decide +kernel
theorem dX7_breaks_15 : decode cX7_breaks 15 = .ok (.iload_n 3, 1) := by decide +kernel
theorem dX7_breaks_16 : decode cX7_breaks 16 = .ok (.invokestatic 96, 3) := by decide +kernel
theorem dX7_breaks_19 : decode cX7_breaks 19 = .ok (.ifCond .ne 5, 3) := by decide +kernel
theorem dX7_breaks_22 : decode cX7_breaks 22 = .ok (.iconst (-1), 1) := by decide +kernel
theorem dX7_breaks_23 : decode cX7_breaks 23 = .ok (.ireturn, 1) := by decide +kernel
theorem dX7_breaks_24 : decode cX7_breaks 24 = .ok (.aload_n 0, 1) := by decide +kernel
theorem dX7_breaks_25 : decode cX7_breaks 25 = .ok (.iload_n 1, 1) := by decide +kernel
theorem dX7_breaks_26 : decode cX7_breaks 26 = .ok (.iload_n 2, 1) := by decide +kernel
theorem dX7_breaks_27 : decode cX7_breaks 27 = .ok (.iload_n 3, 1) := by decide +kernel
theorem dX7_breaks_28 : decode cX7_breaks 28 = .ok (.sipush 255, 3) := by decide +kernel
theorem dX7_breaks_31 : decode cX7_breaks 31 = .ok (.invokevirtual 210, 3) := by decide +kernel
theorem dX7_breaks_34 : decode cX7_breaks 34 = .ok (.istore 4, 2) := by decide +kernel
theorem dX7_breaks_36 : decode cX7_breaks 36 = .ok (.iload 4, 2) := by decide +kernel
theorem dX7_breaks_38 : decode cX7_breaks 38 = .ok (.iconst (-1), 1) := by decide +kernel
theorem dX7_breaks_39 : decode cX7_breaks 39 = .ok (.if_icmp .ne 8, 3) := by decide +kernel
theorem dX7_breaks_42 : decode cX7_breaks 42 = .ok (.bipush (-2), 2) := by decide +kernel
theorem dX7_breaks_44 : decode cX7_breaks 44 = .ok (.goto 5, 3) := by decide +kernel
theorem dX7_breaks_47 : decode cX7_breaks 47 = .ok (.iload 4, 2) := by decide +kernel
theorem dX7_breaks_49 : decode cX7_breaks 49 = .ok (.ireturn, 1) := by decide +kernel
theorem dX7_rooms_0 : decode cX7_rooms 0 = .ok (.aload_n 0, 1) := by decide +kernel
theorem dX7_rooms_1 : decode cX7_rooms 1 = .ok (.iload_n 1, 1) := by decide +kernel
theorem dX7_rooms_2 : decode cX7_rooms 2 = .ok (.invokevirtual 122, 3) := by decide +kernel
theorem dX7_rooms_5 : decode cX7_rooms 5 = .ok (.ifCond .eq 15, 3) := by decide +kernel
theorem dX7_rooms_8 : decode cX7_rooms 8 = .ok (.iload_n 2, 1) := by decide +kernel
theorem dX7_rooms_9 : decode cX7_rooms 9 = .ok (.iconst 1, 1) := by decide +kernel
theorem dX7_rooms_10 : decode cX7_rooms 10 = .ok (.if_icmp .lt 10, 3) := by decide +kernel
theorem dX7_rooms_13 : decode cX7_rooms 13 = .ok (.iload_n 2, 1) := by decide +kernel
theorem dX7_rooms_14 : decode cX7_rooms 14 = .ok (.sipush 255, 3) := by decide +kernel
theorem dX7_rooms_17 : decode cX7_rooms 17 = .ok (.if_icmp .le 5, 3) := by decide +kernel
theorem dX7_rooms_20 : decode cX7_rooms 20 = .ok (.iconst (-1), 1) := by decide +kernel
theorem dX7_rooms_21 : decode cX7_rooms 21 = .ok (.ireturn, 1) := by decide +kernel
theorem dX7_rooms_22 : decode cX7_rooms 22 = .ok (.aload_n 0, 1) := by decide +kernel
theorem dX7_rooms_23 : decode cX7_rooms 23 = .ok (.getfield 33, 3) := by decide +kernel
theorem dX7_rooms_26 : decode cX7_rooms 26 = .ok (.aload_n 0, 1) := by decide +kernel
theorem dX7_rooms_27 : decode cX7_rooms 27 = .ok (.getfield 25, 3) := by decide +kernel
theorem dX7_rooms_30 : decode cX7_rooms 30 = .ok (.iconst 0, 1) := by decide +kernel
theorem dX7_rooms_31 : decode cX7_rooms 31 = .ok (.aaload, 1) := by decide +kernel
theorem dX7_rooms_32 : decode cX7_rooms 32 = .ok (.iload_n 1, 1) := by decide +kernel
theorem dX7_rooms_33 : decode cX7_rooms 33 = .ok (.invokevirtual 138, 3) := by decide +kernel
theorem dX7_rooms_36 : decode cX7_rooms 36 = .ok (.aload_n 0, 1) := by decide +kernel
theorem dX7_rooms_37 : decode cX7_rooms 37 = .ok (.getfield 33, 3) := by decide +kernel
theorem dX7_rooms_40 : decode cX7_rooms 40 = .ok (.aload_n 0, 1) := by decide +kernel
theorem dX7_rooms_41 : decode cX7_rooms 41 = .ok (.getfield 19, 3) := by decide +kernel
theorem dX7_rooms_44 : decode cX7_rooms 44 = .ok (.getfield 153, 3) := by decide +kernel
theorem dX7_rooms_47 : decode cX7_rooms 47 = .ok (.iload_n 1, 1) := by decide +kernel
theorem dX7_rooms_48 : decode cX7_rooms 48 = .ok (.iaload, 1) := by decide +kernel
theorem dX7_rooms_49 : decode cX7_rooms 49 = .ok (.invokevirtual 156, 3) := by decide +kernel
theorem dX7_rooms_52 : decode cX7_rooms 52 = .ok (.istore_n 3, 1) := by decide +kernel
theorem dX7_rooms_53 : decode cX7_rooms 53 = .ok (.iconst 1, 1) := by decide +kernel
theorem dX7_rooms_54 : decode cX7_rooms 54 = .ok (.istore 4, 2) := by decide +kernel
theorem dX7_rooms_56 : decode cX7_rooms 56 = .ok (.iload 4, 2) := by decide +kernel
theorem dX7_rooms_58 : decode cX7_rooms 58 = .ok (.bipush 8, 2) := by decide +kernel
theorem dX7_rooms_60 : decode cX7_rooms 60 = .ok (.if_icmp .gt 53, 3) := by decide +kernel
theorem dX7_rooms_63 : decode cX7_rooms 63 = .ok (.iconst 1, 1) := by decide +kernel
theorem dX7_rooms_64 : decode cX7_rooms 64 = .ok (.istore 5, 2) := by decide +kernel
theorem dX7_rooms_66 : decode cX7_rooms 66 = .ok (.iload 5, 2) := by decide +kernel
theorem dX7_rooms_68 : decode cX7_rooms 68 = .ok (.sipush 255, 3) := by decide +kernel
theorem dX7_rooms_71 : decode cX7_rooms 71 = .ok (.if_icmp .gt 36, 3) := by decide +kernel
theorem dX7_rooms_74 : decode cX7_rooms 74 = .ok (.iload 5, 2) := by decide +kernel
theorem dX7_rooms_76 : decode cX7_rooms 76 = .ok (.iload_n 2, 1) := by decide +kernel
theorem dX7_rooms_77 : decode cX7_rooms 77 = .ok (.iload 4, 2) := by decide +kernel
theorem dX7_rooms_79 : decode cX7_rooms 79 = .ok (.invokestatic 202, 3) := by decide +kernel
theorem dX7_rooms_82 : decode cX7_rooms 82 = .ok (.ifCond .eq 19, 3) := by decide +kernel
theorem dX7_rooms_85 : decode cX7_rooms 85 = .ok (.iload_n 3, 1) := by decide +kernel
theorem dX7_rooms_86 : decode cX7_rooms 86 = .ok (.aload_n 0, 1) := by decide +kernel
theorem dX7_rooms_87 : decode cX7_rooms 87 = .ok (.iload 5, 2) := by decide +kernel
theorem dX7_rooms_89 : decode cX7_rooms 89 = .ok (.invokevirtual 214, 3) := by decide +kernel
theorem dX7_rooms_92 : decode cX7_rooms 92 = .ok (.iconst (-1), 1) := by decide +kernel
theorem dX7_rooms_93 : decode cX7_rooms 93 = .ok (.ixor, 1) := by decide +kernel
theorem dX7_rooms_94 : decode cX7_rooms 94 = .ok (.iand, 1) := by decide +kernel
theorem dX7_rooms_95 : decode cX7_rooms 95 = .ok (.ifCond .ne 6, 3) := by decide +kernel
theorem dX7_rooms_98 : decode cX7_rooms 98 = .ok (.iload 5, 2) := by decide +kernel
theorem dX7_rooms_100 : decode cX7_rooms 100 = .ok (.ireturn, 1) := by decide +kernel
theorem dX7_rooms_101 : decode cX7_rooms 101 = .ok (.iinc 5 1, 3) := by decide +kernel
theorem dX7_rooms_104 : decode cX7_rooms 104 = .ok (.goto (-38), 3) := by decide +kernel
theorem dX7_rooms_107 : decode cX7_rooms 107 = .ok (.iinc 4 1, 3) := by decide +kernel
theorem dX7_rooms_110 : decode cX7_rooms 110 = .ok (.goto (-54), 3) := by decide +kernel
theorem dX7_rooms_113 : decode cX7_rooms 113 = .ok (.bipush (-2), 2) := by decide +kernel
theorem dX7_rooms_115 : decode cX7_rooms 115 = .ok (.ireturn, 1) := by decide +kernel
theorem dX7_maker_0 : decode cX7_maker 0 = .ok (.iload_n 1, 1) := by decide +kernel
theorem dX7_maker_1 : decode cX7_maker 1 = .ok (.invokestatic 217, 3) := by decide +kernel
theorem dX7_maker_4 : decode cX7_maker 4 = .ok (.ifCond .eq 23, 3) := by decide +kernel
theorem dX7_maker_7 : decode cX7_maker 7 = .ok (.iload_n 2, 1) := by decide +kernel
theorem dX7_maker_8 : decode cX7_maker 8 = .ok (.iconst (-1), 1) := by decide +kernel
theorem dX7_maker_9 : decode cX7_maker 9 = .ok (.if_icmp .eq 20, 3) := by decide +kernel
theorem dX7_maker_12 : decode cX7_maker 12 = .ok (.iload_n 2, 1) := by decide +kernel
theorem dX7_maker_13 : decode cX7_maker 13 = .ok (.invokestatic 217, 3) := by decide +kernel
theorem dX7_maker_16 : decode cX7_maker 16 = .ok (.ifCond .eq 11, 3) := by decide +kernel
theorem dX7_maker_19 : decode cX7_maker 19 = .ok (.aload_n 0, 1) := by decide +kernel
theorem dX7_maker_20 : decode cX7_maker 20 = .ok (.iload_n 3, 1) := by decide +kernel
theorem dX7_maker_21 : decode cX7_maker 21 = .ok (.invokevirtual 80, 3) := by decide +kernel
theorem dX7_maker_24 : decode cX7_maker 24 = .ok (.ifCond .ne 5, 3) := by decide +kernel
theorem dX7_maker_27 : decode cX7_maker 27 = .ok (.iconst (-1), 1) := by decide +kernel
theorem dX7_maker_28 : decode cX7_maker 28 = .ok (.ireturn, 1) := by decide +kernel
theorem dX7_maker_29 : decode cX7_maker 29 = .ok (.aload_n 0, 1) := by decide +kernel
theorem dX7_maker_30 : decode cX7_maker 30 = .ok (.getfield 57, 3) := by decide +kernel
theorem dX7_maker_33 : decode cX7_maker 33 = .ok (.getfield 220, 3) := by decide +kernel
theorem dX7_maker_36 : decode cX7_maker 36 = .ok (.iload_n 1, 1) := by decide +kernel
theorem dX7_maker_37 : decode cX7_maker 37 = .ok (.iload_n 2, 1) := by decide +kernel
theorem dX7_maker_38 : decode cX7_maker 38 = .ok (.iastore, 1) := by decide +kernel
theorem dX7_maker_39 : decode cX7_maker 39 = .ok (.aload_n 0, 1) := by decide +kernel
theorem dX7_maker_40 : decode cX7_maker 40 = .ok (.getfield 57, 3) := by decide +kernel
theorem dX7_maker_43 : decode cX7_maker 43 = .ok (.getfield 223, 3) := by decide +kernel
theorem dX7_maker_46 : decode cX7_maker 46 = .ok (.iload_n 1, 1) := by decide +kernel
theorem dX7_maker_47 : decode cX7_maker 47 = .ok (.iload_n 2, 1) := by decide +kernel
theorem dX7_maker_48 : decode cX7_maker 48 = .ok (.iconst (-1), 1) := by decide +kernel
theorem dX7_maker_49 : decode cX7_maker 49 = .ok (.if_icmp .ne 7, 3) := by decide +kernel
theorem dX7_maker_52 : decode cX7_maker 52 = .ok (.iconst 0, 1) := by decide +kernel
theorem dX7_maker_53 : decode cX7_maker 53 = .ok (.goto 4, 3) := by decide +kernel
theorem dX7_maker_56 : decode cX7_maker 56 = .ok (.iload_n 3, 1) := by decide +kernel
theorem dX7_maker_57 : decode cX7_maker 57 = .ok (.iastore, 1) := by decide +kernel
theorem dX7_maker_58 : decode cX7_maker 58 = .ok (.iconst 1, 1) := by decide +kernel
theorem dX7_maker_59 : decode cX7_maker 59 = .ok (.ireturn, 1) := by decide +kernel
theorem dX7_down_0 : decode cX7_down 0 = .ok (.iload_n 1, 1) := by decide +kernel
theorem dX7_down_1 : decode cX7_down 1 = .ok (.invokestatic 217, 3) := by decide +kernel
theorem dX7_down_4 : decode cX7_down 4 = .ok (.ifCond .ne 5, 3) := by decide +kernel
theorem dX7_down_7 : decode cX7_down 7 = .ok (.iconst (-1), 1) := by decide +kernel
theorem dX7_down_8 : decode cX7_down 8 = .ok (.ireturn, 1) := by decide +kernel
theorem dX7_down_9 : decode cX7_down 9 = .ok (.aload_n 0, 1) := by decide +kernel
theorem dX7_down_10 : decode cX7_down 10 = .ok (.getfield 57, 3) := by decide +kernel
theorem dX7_down_13 : decode cX7_down 13 = .ok (.iload_n 1, 1) := by decide +kernel
theorem dX7_down_14 : decode cX7_down 14 = .ok (.invokevirtual 226, 3) := by decide +kernel
theorem dX7_down_17 : decode cX7_down 17 = .ok (.iconst (-1), 1) := by decide +kernel
theorem dX7_down_18 : decode cX7_down 18 = .ok (.if_icmp .ne 19, 3) := by decide +kernel
theorem dX7_down_21 : decode cX7_down 21 = .ok (.aload_n 0, 1) := by decide +kernel
theorem dX7_down_22 : decode cX7_down 22 = .ok (.getfield 57, 3) := by decide +kernel
theorem dX7_down_25 : decode cX7_down 25 = .ok (.iload_n 1, 1) := by decide +kernel
theorem dX7_down_26 : decode cX7_down 26 = .ok (.invokevirtual 229, 3) := by decide +kernel
theorem dX7_down_29 : decode cX7_down 29 = .ok (.invokestatic 107, 3) := by decide +kernel
theorem dX7_down_32 : decode cX7_down 32 = .ok (.iconst 1, 1) := by decide +kernel
theorem dX7_down_33 : decode cX7_down 33 = .ok (.isub, 1) := by decide +kernel
theorem dX7_down_34 : decode cX7_down 34 = .ok (.goto 5, 3) := by decide +kernel
theorem dX7_down_37 : decode cX7_down 37 = .ok (.bipush (-5), 2) := by decide +kernel
theorem dX7_down_39 : decode cX7_down 39 = .ok (.ireturn, 1) := by decide +kernel
theorem dX7_ring_0 : decode cX7_ring 0 = .ok (.iload_n 1, 1) := by decide +kernel
theorem dX7_ring_1 : decode cX7_ring 1 = .ok (.invokestatic 217, 3) := by decide +kernel
theorem dX7_ring_4 : decode cX7_ring 4 = .ok (.ifCond .ne 5, 3) := by decide +kernel
theorem dX7_ring_7 : decode cX7_ring 7 = .ok (.iconst (-1), 1) := by decide +kernel
theorem dX7_ring_8 : decode cX7_ring 8 = .ok (.ireturn, 1) := by decide +kernel
theorem dX7_ring_9 : decode cX7_ring 9 = .ok (.aload_n 0, 1) := by decide +kernel
theorem dX7_ring_10 : decode cX7_ring 10 = .ok (.getfield 57, 3) := by decide +kernel
theorem dX7_ring_13 : decode cX7_ring 13 = .ok (.iload_n 1, 1) := by decide +kernel
theorem dX7_ring_14 : decode cX7_ring 14 = .ok (.invokevirtual 226, 3) := by decide +kernel
theorem dX7_ring_17 : decode cX7_ring 17 = .ok (.istore_n 3, 1) := by decide +kernel
theorem dX7_ring_18 : decode cX7_ring 18 = .ok (.iload_n 3, 1) := by decide +kernel
theorem dX7_ring_19 : decode cX7_ring 19 = .ok (.iconst (-1), 1) := by decide +kernel
theorem dX7_ring_20 : decode cX7_ring 20 = .ok (.if_icmp .ne 6, 3) := by decide +kernel
theorem dX7_ring_23 : decode cX7_ring 23 = .ok (.bipush (-2), 2) := by decide +kernel
theorem dX7_ring_25 : decode cX7_ring 25 = .ok (.ireturn, 1) := by decide +kernel
theorem dX7_ring_26 : decode cX7_ring 26 = .ok (.iload_n 2, 1) := by decide +kernel
theorem dX7_ring_27 : decode cX7_ring 27 = .ok (.ifCond .lt 30, 3) := by decide +kernel
theorem dX7_ring_30 : decode cX7_ring 30 = .ok (.iload_n 2, 1) := by decide +kernel
theorem dX7_ring_31 : decode cX7_ring 31 = .ok (.aload_n 0, 1) := by decide +kernel
theorem dX7_ring_32 : decode cX7_ring 32 = .ok (.getfield 57, 3) := by decide +kernel
theorem dX7_ring_35 : decode cX7_ring 35 = .ok (.iload_n 3, 1) := by decide +kernel
theorem dX7_ring_36 : decode cX7_ring 36 = .ok (.invokevirtual 229, 3) := by decide +kernel
theorem dX7_ring_39 : decode cX7_ring 39 = .ok (.invokestatic 107, 3) := by decide +kernel
theorem dX7_ring_42 : decode cX7_ring 42 = .ok (.if_icmp .ge 15, 3) := by decide +kernel
theorem dX7_ring_45 : decode cX7_ring 45 = .ok (.aload_n 0, 1) := by decide +kernel
theorem dX7_ring_46 : decode cX7_ring 46 = .ok (.getfield 57, 3) := by decide +kernel
theorem dX7_ring_49 : decode cX7_ring 49 = .ok (.iload_n 3, 1) := by decide +kernel
theorem dX7_ring_50 : decode cX7_ring 50 = .ok (.iload_n 2, 1) := by decide +kernel
theorem dX7_ring_51 : decode cX7_ring 51 = .ok (.invokevirtual 232, 3) := by decide +kernel
theorem dX7_ring_54 : decode cX7_ring 54 = .ok (.goto 4, 3) := by decide +kernel
theorem dX7_ring_57 : decode cX7_ring 57 = .ok (.iconst (-1), 1) := by decide +kernel
theorem dX7_ring_58 : decode cX7_ring 58 = .ok (.ireturn, 1) := by decide +kernel
theorem dX7_needs_0 : decode cX7_needs 0 = .ok (.iload_n 1, 1) := by decide +kernel
theorem dX7_needs_1 : decode cX7_needs 1 = .ok (.invokestatic 217, 3) := by decide +kernel
theorem dX7_needs_4 : decode cX7_needs 4 = .ok (.ifCond .eq 10, 3) := by decide +kernel
theorem dX7_needs_7 : decode cX7_needs 7 = .ok (.iload_n 2, 1) := by decide +kernel
theorem dX7_needs_8 : decode cX7_needs 8 = .ok (.invokestatic 83, 3) := by decide +kernel
theorem dX7_needs_11 : decode cX7_needs 11 = .ok (.ifCond .ne 5, 3) := by decide +kernel
theorem dX7_needs_14 : decode cX7_needs 14 = .ok (.iconst (-1), 1) := by decide +kernel
theorem dX7_needs_15 : decode cX7_needs 15 = .ok (.ireturn, 1) := by decide +kernel
theorem dX7_needs_16 : decode cX7_needs 16 = .ok (.aload_n 0, 1) := by decide +kernel
theorem dX7_needs_17 : decode cX7_needs 17 = .ok (.getfield 57, 3) := by decide +kernel
theorem dX7_needs_20 : decode cX7_needs 20 = .ok (.aload_n 0, 1) := by decide +kernel
theorem dX7_needs_21 : decode cX7_needs 21 = .ok (.getfield 57, 3) := by decide +kernel
theorem dX7_needs_24 : decode cX7_needs 24 = .ok (.iload_n 1, 1) := by decide +kernel
theorem dX7_needs_25 : decode cX7_needs 25 = .ok (.invokevirtual 229, 3) := by decide +kernel
theorem dX7_needs_28 : decode cX7_needs 28 = .ok (.invokevirtual 235, 3) := by decide +kernel
theorem dX7_needs_31 : decode cX7_needs 31 = .ok (.istore_n 3, 1) := by decide +kernel
theorem dX7_needs_32 : decode cX7_needs 32 = .ok (.iload_n 2, 1) := by decide +kernel
theorem dX7_needs_33 : decode cX7_needs 33 = .ok (.ifCond .ne 7, 3) := by decide +kernel
theorem dX7_needs_36 : decode cX7_needs 36 = .ok (.iload_n 3, 1) := by decide +kernel
theorem dX7_needs_37 : decode cX7_needs 37 = .ok (.goto 12, 3) := by decide +kernel
theorem dX7_needs_40 : decode cX7_needs 40 = .ok (.iload_n 3, 1) := by decide +kernel
theorem dX7_needs_41 : decode cX7_needs 41 = .ok (.aload_n 0, 1) := by decide +kernel
theorem dX7_needs_42 : decode cX7_needs 42 = .ok (.getfield 10, 3) := by decide +kernel
theorem dX7_needs_45 : decode cX7_needs 45 = .ok (.getfield 86, 3) := by decide +kernel
theorem dX7_needs_48 : decode cX7_needs 48 = .ok (.iand, 1) := by decide +kernel
theorem dX7_needs_49 : decode cX7_needs 49 = .ok (.invokestatic 107, 3) := by decide +kernel
theorem dX7_needs_52 : decode cX7_needs 52 = .ok (.ireturn, 1) := by decide +kernel
theorem dX7_forge_0 : decode cX7_forge 0 = .ok (.iload_n 1, 1) := by decide +kernel
theorem dX7_forge_1 : decode cX7_forge 1 = .ok (.invokestatic 217, 3) := by decide +kernel
theorem dX7_forge_4 : decode cX7_forge 4 = .ok (.ifCond .eq 10, 3) := by decide +kernel
theorem dX7_forge_7 : decode cX7_forge 7 = .ok (.iload_n 2, 1) := by decide +kernel
theorem dX7_forge_8 : decode cX7_forge 8 = .ok (.invokestatic 83, 3) := by decide +kernel
theorem dX7_forge_11 : decode cX7_forge 11 = .ok (.ifCond .ne 5, 3) := by decide +kernel
theorem dX7_forge_14 : decode cX7_forge 14 = .ok (.iconst (-1), 1) := by decide +kernel
theorem dX7_forge_15 : decode cX7_forge 15 = .ok (.ireturn, 1) := by decide +kernel
theorem dX7_forge_16 : decode cX7_forge 16 = .ok (.aload_n 0, 1) := by decide +kernel
theorem dX7_forge_17 : decode cX7_forge 17 = .ok (.getfield 57, 3) := by decide +kernel
theorem dX7_forge_20 : decode cX7_forge 20 = .ok (.getfield 238, 3) := by decide +kernel
theorem dX7_forge_23 : decode cX7_forge 23 = .ok (.iload_n 1, 1) := by decide +kernel
theorem dX7_forge_24 : decode cX7_forge 24 = .ok (.iushr, 1) := by decide +kernel
theorem dX7_forge_25 : decode cX7_forge 25 = .ok (.iconst 1, 1) := by decide +kernel
theorem dX7_forge_26 : decode cX7_forge 26 = .ok (.iand, 1) := by decide +kernel
theorem dX7_forge_27 : decode cX7_forge 27 = .ok (.istore_n 3, 1) := by decide +kernel
theorem dX7_forge_28 : decode cX7_forge 28 = .ok (.aload_n 0, 1) := by decide +kernel
theorem dX7_forge_29 : decode cX7_forge 29 = .ok (.getfield 57, 3) := by decide +kernel
theorem dX7_forge_32 : decode cX7_forge 32 = .ok (.aload_n 0, 1) := by decide +kernel
theorem dX7_forge_33 : decode cX7_forge 33 = .ok (.getfield 57, 3) := by decide +kernel
theorem dX7_forge_36 : decode cX7_forge 36 = .ok (.getfield 238, 3) := by decide +kernel
theorem dX7_forge_39 : decode cX7_forge 39 = .ok (.iload_n 1, 1) := by decide +kernel
theorem dX7_forge_40 : decode cX7_forge 40 = .ok (.iload_n 2, 1) := by decide +kernel
theorem dX7_forge_41 : decode cX7_forge 41 = .ok (.invokestatic 89, 3) := by decide +kernel
theorem dX7_forge_44 : decode cX7_forge 44 = .ok (.putfield 238, 3) := by decide +kernel
theorem dX7_forge_47 : decode cX7_forge 47 = .ok (.iload_n 3, 1) := by decide +kernel
theorem dX7_forge_48 : decode cX7_forge 48 = .ok (.ireturn, 1) := by decide +kernel
theorem dX7_trust_0 : decode cX7_trust 0 = .ok (.iload_n 1, 1) := by decide +kernel
theorem dX7_trust_1 : decode cX7_trust 1 = .ok (.invokestatic 217, 3) := by decide +kernel
theorem dX7_trust_4 : decode cX7_trust 4 = .ok (.ifCond .ne 5, 3) := by decide +kernel
theorem dX7_trust_7 : decode cX7_trust 7 = .ok (.iconst (-1), 1) := by decide +kernel
theorem dX7_trust_8 : decode cX7_trust 8 = .ok (.ireturn, 1) := by decide +kernel
theorem dX7_trust_9 : decode cX7_trust 9 = .ok (.aload_n 0, 1) := by decide +kernel
theorem dX7_trust_10 : decode cX7_trust 10 = .ok (.getfield 57, 3) := by decide +kernel
theorem dX7_trust_13 : decode cX7_trust 13 = .ok (.iload_n 1, 1) := by decide +kernel
theorem dX7_trust_14 : decode cX7_trust 14 = .ok (.invokevirtual 229, 3) := by decide +kernel
theorem dX7_trust_17 : decode cX7_trust 17 = .ok (.aload_n 0, 1) := by decide +kernel
theorem dX7_trust_18 : decode cX7_trust 18 = .ok (.getfield 57, 3) := by decide +kernel
theorem dX7_trust_21 : decode cX7_trust 21 = .ok (.getfield 238, 3) := by decide +kernel
theorem dX7_trust_24 : decode cX7_trust 24 = .ok (.iand, 1) := by decide +kernel
theorem dX7_trust_25 : decode cX7_trust 25 = .ok (.ifCond .ne 7, 3) := by decide +kernel
theorem dX7_trust_28 : decode cX7_trust 28 = .ok (.iconst 1, 1) := by decide +kernel
theorem dX7_trust_29 : decode cX7_trust 29 = .ok (.goto 4, 3) := by decide +kernel
theorem dX7_trust_32 : decode cX7_trust 32 = .ok (.iconst 0, 1) := by decide +kernel
theorem dX7_trust_33 : decode cX7_trust 33 = .ok (.ireturn, 1) := by decide +kernel
theorem dX7_heirs_0 : decode cX7_heirs 0 = .ok (.iload_n 1, 1) := by decide +kernel
theorem dX7_heirs_1 : decode cX7_heirs 1 = .ok (.invokestatic 217, 3) := by decide +kernel
theorem dX7_heirs_4 : decode cX7_heirs 4 = .ok (.ifCond .ne 5, 3) := by decide +kernel
theorem dX7_heirs_7 : decode cX7_heirs 7 = .ok (.iconst (-1), 1) := by decide +kernel
theorem dX7_heirs_8 : decode cX7_heirs 8 = .ok (.ireturn, 1) := by decide +kernel
theorem dX7_heirs_9 : decode cX7_heirs 9 = .ok (.iconst 0, 1) := by decide +kernel
theorem dX7_heirs_10 : decode cX7_heirs 10 = .ok (.istore_n 2, 1) := by decide +kernel
theorem dX7_heirs_11 : decode cX7_heirs 11 = .ok (.iconst 0, 1) := by decide +kernel
theorem dX7_heirs_12 : decode cX7_heirs 12 = .ok (.istore_n 3, 1) := by decide +kernel
theorem dX7_heirs_13 : decode cX7_heirs 13 = .ok (.iload_n 3, 1) := by decide +kernel
theorem dX7_heirs_14 : decode cX7_heirs 14 = .ok (.bipush 30, 2) := by decide +kernel
theorem dX7_heirs_16 : decode cX7_heirs 16 = .ok (.if_icmp .ge 32, 3) := by decide +kernel
theorem dX7_heirs_19 : decode cX7_heirs 19 = .ok (.iload_n 3, 1) := by decide +kernel
theorem dX7_heirs_20 : decode cX7_heirs 20 = .ok (.iload_n 1, 1) := by decide +kernel
theorem dX7_heirs_21 : decode cX7_heirs 21 = .ok (.if_icmp .eq 21, 3) := by decide +kernel
theorem dX7_heirs_24 : decode cX7_heirs 24 = .ok (.aload_n 0, 1) := by decide +kernel
theorem dX7_heirs_25 : decode cX7_heirs 25 = .ok (.getfield 57, 3) := by decide +kernel
theorem dX7_heirs_28 : decode cX7_heirs 28 = .ok (.iload_n 3, 1) := by decide +kernel
theorem dX7_heirs_29 : decode cX7_heirs 29 = .ok (.invokevirtual 229, 3) := by decide +kernel
theorem dX7_heirs_32 : decode cX7_heirs 32 = .ok (.iload_n 1, 1) := by decide +kernel
theorem dX7_heirs_33 : decode cX7_heirs 33 = .ok (.iushr, 1) := by decide +kernel
theorem dX7_heirs_34 : decode cX7_heirs 34 = .ok (.iconst 1, 1) := by decide +kernel
theorem dX7_heirs_35 : decode cX7_heirs 35 = .ok (.iand, 1) := by decide +kernel
theorem dX7_heirs_36 : decode cX7_heirs 36 = .ok (.ifCond .eq 6, 3) := by decide +kernel
theorem dX7_heirs_39 : decode cX7_heirs 39 = .ok (.iinc 2 1, 3) := by decide +kernel
theorem dX7_heirs_42 : decode cX7_heirs 42 = .ok (.iinc 3 1, 3) := by decide +kernel
theorem dX7_heirs_45 : decode cX7_heirs 45 = .ok (.goto (-32), 3) := by decide +kernel
theorem dX7_heirs_48 : decode cX7_heirs 48 = .ok (.iload_n 2, 1) := by decide +kernel
theorem dX7_heirs_49 : decode cX7_heirs 49 = .ok (.ireturn, 1) := by decide +kernel
theorem dX7_count_0 : decode cX7_count 0 = .ok (.iload_n 1, 1) := by decide +kernel
theorem dX7_count_1 : decode cX7_count 1 = .ok (.tableswitch 96 0 5 #[39, 47, 55, 63, 74, 85], 39) := by decide +kernel
theorem dX7_count_40 : decode cX7_count 40 = .ok (.aload_n 0, 1) := by decide +kernel
theorem dX7_count_41 : decode cX7_count 41 = .ok (.getfield 10, 3) := by decide +kernel
theorem dX7_count_44 : decode cX7_count 44 = .ok (.getfield 75, 3) := by decide +kernel
theorem dX7_count_47 : decode cX7_count 47 = .ok (.ireturn, 1) := by decide +kernel
theorem dX7_count_48 : decode cX7_count 48 = .ok (.aload_n 0, 1) := by decide +kernel
theorem dX7_count_49 : decode cX7_count 49 = .ok (.getfield 19, 3) := by decide +kernel
theorem dX7_count_52 : decode cX7_count 52 = .ok (.getfield 118, 3) := by decide +kernel
theorem dX7_count_55 : decode cX7_count 55 = .ok (.ireturn, 1) := by decide +kernel
theorem dX7_count_56 : decode cX7_count 56 = .ok (.aload_n 0, 1) := by decide +kernel
theorem dX7_count_57 : decode cX7_count 57 = .ok (.getfield 57, 3) := by decide +kernel
theorem dX7_count_60 : decode cX7_count 60 = .ok (.invokevirtual 241, 3) := by decide +kernel
theorem dX7_count_63 : decode cX7_count 63 = .ok (.ireturn, 1) := by decide +kernel
theorem dX7_count_64 : decode cX7_count 64 = .ok (.aload_n 0, 1) := by decide +kernel
theorem dX7_count_65 : decode cX7_count 65 = .ok (.getfield 57, 3) := by decide +kernel
theorem dX7_count_68 : decode cX7_count 68 = .ok (.getfield 238, 3) := by decide +kernel
theorem dX7_count_71 : decode cX7_count 71 = .ok (.invokestatic 107, 3) := by decide +kernel
theorem dX7_count_74 : decode cX7_count 74 = .ok (.ireturn, 1) := by decide +kernel
theorem dX7_count_75 : decode cX7_count 75 = .ok (.aload_n 0, 1) := by decide +kernel
theorem dX7_count_76 : decode cX7_count 76 = .ok (.getfield 10, 3) := by decide +kernel
theorem dX7_count_79 : decode cX7_count 79 = .ok (.getfield 61, 3) := by decide +kernel
theorem dX7_count_82 : decode cX7_count 82 = .ok (.getfield 65, 3) := by decide +kernel
theorem dX7_count_85 : decode cX7_count 85 = .ok (.ireturn, 1) := by decide +kernel
theorem dX7_count_86 : decode cX7_count 86 = .ok (.aload_n 0, 1) := by decide +kernel
theorem dX7_count_87 : decode cX7_count 87 = .ok (.getfield 10, 3) := by decide +kernel
theorem dX7_count_90 : decode cX7_count 90 = .ok (.getfield 86, 3) := by decide +kernel
theorem dX7_count_93 : decode cX7_count 93 = .ok (.invokestatic 107, 3) := by decide +kernel
theorem dX7_count_96 : decode cX7_count 96 = .ok (.ireturn, 1) := by decide +kernel
theorem dX7_count_97 : decode cX7_count 97 = .ok (.iconst (-1), 1) := by decide +kernel
theorem dX7_count_98 : decode cX7_count 98 = .ok (.ireturn, 1) := by decide +kernel
theorem dX7_isText_0 : decode cX7_isText 0 = .ok (.iload_n 1, 1) := by decide +kernel
theorem dX7_isText_1 : decode cX7_isText 1 = .ok (.ifCond .lt 18, 3) := by decide +kernel
theorem dX7_isText_4 : decode cX7_isText 4 = .ok (.iload_n 1, 1) := by decide +kernel
theorem dX7_isText_5 : decode cX7_isText 5 = .ok (.aload_n 0, 1) := by decide +kernel
theorem dX7_isText_6 : decode cX7_isText 6 = .ok (.getfield 10, 3) := by decide +kernel
theorem dX7_isText_9 : decode cX7_isText 9 = .ok (.getfield 75, 3) := by decide +kernel
theorem dX7_isText_12 : decode cX7_isText 12 = .ok (.if_icmp .ge 7, 3) := by decide +kernel
theorem dX7_isText_15 : decode cX7_isText 15 = .ok (.iconst 1, 1) := by decide +kernel
theorem dX7_isText_16 : decode cX7_isText 16 = .ok (.goto 4, 3) := by decide +kernel
theorem dX7_isText_19 : decode cX7_isText 19 = .ok (.iconst 0, 1) := by decide +kernel
theorem dX7_isText_20 : decode cX7_isText 20 = .ok (.ireturn, 1) := by decide +kernel
theorem dX7_isStep_0 : decode cX7_isStep 0 = .ok (.iload_n 1, 1) := by decide +kernel
theorem dX7_isStep_1 : decode cX7_isStep 1 = .ok (.ifCond .lt 18, 3) := by decide +kernel
theorem dX7_isStep_4 : decode cX7_isStep 4 = .ok (.iload_n 1, 1) := by decide +kernel
theorem dX7_isStep_5 : decode cX7_isStep 5 = .ok (.aload_n 0, 1) := by decide +kernel
theorem dX7_isStep_6 : decode cX7_isStep 6 = .ok (.getfield 19, 3) := by decide +kernel
theorem dX7_isStep_9 : decode cX7_isStep 9 = .ok (.getfield 118, 3) := by decide +kernel
theorem dX7_isStep_12 : decode cX7_isStep 12 = .ok (.if_icmp .ge 7, 3) := by decide +kernel
theorem dX7_isStep_15 : decode cX7_isStep 15 = .ok (.iconst 1, 1) := by decide +kernel
theorem dX7_isStep_16 : decode cX7_isStep 16 = .ok (.goto 4, 3) := by decide +kernel
theorem dX7_isStep_19 : decode cX7_isStep 19 = .ok (.iconst 0, 1) := by decide +kernel
theorem dX7_isStep_20 : decode cX7_isStep 20 = .ok (.ireturn, 1) := by decide +kernel
theorem dX7_isInputFor_0 : decode cX7_isInputFor 0 = .ok (.aload_n 0, 1) := by decide +kernel
theorem dX7_isInputFor_1 : decode cX7_isInputFor 1 = .ok (.iload_n 2, 1) := by decide +kernel
theorem dX7_isInputFor_2 : decode cX7_isInputFor 2 = .ok (.invokevirtual 80, 3) := by decide +kernel
theorem dX7_isInputFor_5 : decode cX7_isInputFor 5 = .ok (.ifCond .ne 17, 3) := by decide +kernel
theorem dX7_isInputFor_8 : decode cX7_isInputFor 8 = .ok (.iload_n 2, 1) := by decide +kernel
theorem dX7_isInputFor_9 : decode cX7_isInputFor 9 = .ok (.bipush 100, 2) := by decide +kernel
theorem dX7_isInputFor_11 : decode cX7_isInputFor 11 = .ok (.if_icmp .lt 15, 3) := by decide +kernel
theorem dX7_isInputFor_14 : decode cX7_isInputFor 14 = .ok (.iload_n 2, 1) := by decide +kernel
theorem dX7_isInputFor_15 : decode cX7_isInputFor 15 = .ok (.bipush 100, 2) := by decide +kernel
theorem dX7_isInputFor_17 : decode cX7_isInputFor 17 = .ok (.iload_n 1, 1) := by decide +kernel
theorem dX7_isInputFor_18 : decode cX7_isInputFor 18 = .ok (.iadd, 1) := by decide +kernel
theorem dX7_isInputFor_19 : decode cX7_isInputFor 19 = .ok (.if_icmp .ge 7, 3) := by decide +kernel
theorem dX7_isInputFor_22 : decode cX7_isInputFor 22 = .ok (.iconst 1, 1) := by decide +kernel
theorem dX7_isInputFor_23 : decode cX7_isInputFor 23 = .ok (.goto 4, 3) := by decide +kernel
theorem dX7_isInputFor_26 : decode cX7_isInputFor 26 = .ok (.iconst 0, 1) := by decide +kernel
theorem dX7_isInputFor_27 : decode cX7_isInputFor 27 = .ok (.ireturn, 1) := by decide +kernel
theorem dX7_isRoom_0 : decode cX7_isRoom 0 = .ok (.iload_n 0, 1) := by decide +kernel
theorem dX7_isRoom_1 : decode cX7_isRoom 1 = .ok (.ifCond .lt 13, 3) := by decide +kernel
theorem dX7_isRoom_4 : decode cX7_isRoom 4 = .ok (.iload_n 0, 1) := by decide +kernel
theorem dX7_isRoom_5 : decode cX7_isRoom 5 = .ok (.bipush 8, 2) := by decide +kernel
theorem dX7_isRoom_7 : decode cX7_isRoom 7 = .ok (.if_icmp .ge 7, 3) := by decide +kernel
theorem dX7_isRoom_10 : decode cX7_isRoom 10 = .ok (.iconst 1, 1) := by decide +kernel
theorem dX7_isRoom_11 : decode cX7_isRoom 11 = .ok (.goto 4, 3) := by decide +kernel
theorem dX7_isRoom_14 : decode cX7_isRoom 14 = .ok (.iconst 0, 1) := by decide +kernel
theorem dX7_isRoom_15 : decode cX7_isRoom 15 = .ok (.ireturn, 1) := by decide +kernel
theorem dX7_areRooms_0 : decode cX7_areRooms 0 = .ok (.iload_n 0, 1) := by decide +kernel
theorem dX7_areRooms_1 : decode cX7_areRooms 1 = .ok (.invokestatic 93, 3) := by decide +kernel
theorem dX7_areRooms_4 : decode cX7_areRooms 4 = .ok (.ifCond .eq 14, 3) := by decide +kernel
theorem dX7_areRooms_7 : decode cX7_areRooms 7 = .ok (.iload_n 1, 1) := by decide +kernel
theorem dX7_areRooms_8 : decode cX7_areRooms 8 = .ok (.invokestatic 93, 3) := by decide +kernel
theorem dX7_areRooms_11 : decode cX7_areRooms 11 = .ok (.ifCond .eq 7, 3) := by decide +kernel
theorem dX7_areRooms_14 : decode cX7_areRooms 14 = .ok (.iconst 1, 1) := by decide +kernel
theorem dX7_areRooms_15 : decode cX7_areRooms 15 = .ok (.goto 4, 3) := by decide +kernel
theorem dX7_areRooms_18 : decode cX7_areRooms 18 = .ok (.iconst 0, 1) := by decide +kernel
theorem dX7_areRooms_19 : decode cX7_areRooms 19 = .ok (.ireturn, 1) := by decide +kernel
theorem dX7_isWord_0 : decode cX7_isWord 0 = .ok (.iload_n 0, 1) := by decide +kernel
theorem dX7_isWord_1 : decode cX7_isWord 1 = .ok (.ifCond .lt 13, 3) := by decide +kernel
theorem dX7_isWord_4 : decode cX7_isWord 4 = .ok (.iload_n 0, 1) := by decide +kernel
theorem dX7_isWord_5 : decode cX7_isWord 5 = .ok (.bipush 8, 2) := by decide +kernel
theorem dX7_isWord_7 : decode cX7_isWord 7 = .ok (.if_icmp .ge 7, 3) := by decide +kernel
theorem dX7_isWord_10 : decode cX7_isWord 10 = .ok (.iconst 1, 1) := by decide +kernel
theorem dX7_isWord_11 : decode cX7_isWord 11 = .ok (.goto 4, 3) := by decide +kernel
theorem dX7_isWord_14 : decode cX7_isWord 14 = .ok (.iconst 0, 1) := by decide +kernel
theorem dX7_isWord_15 : decode cX7_isWord 15 = .ok (.ireturn, 1) := by decide +kernel
theorem dX7_isMaker_0 : decode cX7_isMaker 0 = .ok (.iload_n 0, 1) := by decide +kernel
theorem dX7_isMaker_1 : decode cX7_isMaker 1 = .ok (.ifCond .lt 13, 3) := by decide +kernel
theorem dX7_isMaker_4 : decode cX7_isMaker 4 = .ok (.iload_n 0, 1) := by decide +kernel
theorem dX7_isMaker_5 : decode cX7_isMaker 5 = .ok (.bipush 30, 2) := by decide +kernel
theorem dX7_isMaker_7 : decode cX7_isMaker 7 = .ok (.if_icmp .ge 7, 3) := by decide +kernel
theorem dX7_isMaker_10 : decode cX7_isMaker 10 = .ok (.iconst 1, 1) := by decide +kernel
theorem dX7_isMaker_11 : decode cX7_isMaker 11 = .ok (.goto 4, 3) := by decide +kernel
theorem dX7_isMaker_14 : decode cX7_isMaker 14 = .ok (.iconst 0, 1) := by decide +kernel
theorem dX7_isMaker_15 : decode cX7_isMaker 15 = .ok (.ireturn, 1) := by decide +kernel
theorem dX7_isBit_0 : decode cX7_isBit 0 = .ok (.iload_n 0, 1) := by decide +kernel
theorem dX7_isBit_1 : decode cX7_isBit 1 = .ok (.ifCond .eq 8, 3) := by decide +kernel
theorem dX7_isBit_4 : decode cX7_isBit 4 = .ok (.iload_n 0, 1) := by decide +kernel
theorem dX7_isBit_5 : decode cX7_isBit 5 = .ok (.iconst 1, 1) := by decide +kernel
theorem dX7_isBit_6 : decode cX7_isBit 6 = .ok (.if_icmp .ne 7, 3) := by decide +kernel
theorem dX7_isBit_9 : decode cX7_isBit 9 = .ok (.iconst 1, 1) := by decide +kernel
theorem dX7_isBit_10 : decode cX7_isBit 10 = .ok (.goto 4, 3) := by decide +kernel
theorem dX7_isBit_13 : decode cX7_isBit 13 = .ok (.iconst 0, 1) := by decide +kernel
theorem dX7_isBit_14 : decode cX7_isBit 14 = .ok (.ireturn, 1) := by decide +kernel
theorem dX7_withBit_0 : decode cX7_withBit 0 = .ok (.iload_n 0, 1) := by decide +kernel
theorem dX7_withBit_1 : decode cX7_withBit 1 = .ok (.iconst 1, 1) := by decide +kernel
theorem dX7_withBit_2 : decode cX7_withBit 2 = .ok (.iload_n 1, 1) := by decide +kernel
theorem dX7_withBit_3 : decode cX7_withBit 3 = .ok (.ishl, 1) := by decide +kernel
theorem dX7_withBit_4 : decode cX7_withBit 4 = .ok (.iconst (-1), 1) := by decide +kernel
theorem dX7_withBit_5 : decode cX7_withBit 5 = .ok (.ixor, 1) := by decide +kernel
theorem dX7_withBit_6 : decode cX7_withBit 6 = .ok (.iand, 1) := by decide +kernel
theorem dX7_withBit_7 : decode cX7_withBit 7 = .ok (.iload_n 2, 1) := by decide +kernel
theorem dX7_withBit_8 : decode cX7_withBit 8 = .ok (.iload_n 1, 1) := by decide +kernel
theorem dX7_withBit_9 : decode cX7_withBit 9 = .ok (.ishl, 1) := by decide +kernel
theorem dX7_withBit_10 : decode cX7_withBit 10 = .ok (.ior, 1) := by decide +kernel
theorem dX7_withBit_11 : decode cX7_withBit 11 = .ok (.ireturn, 1) := by decide +kernel
theorem dX7_isPart_0 : decode cX7_isPart 0 = .ok (.iload_n 0, 1) := by decide +kernel
theorem dX7_isPart_1 : decode cX7_isPart 1 = .ok (.iload_n 1, 1) := by decide +kernel
theorem dX7_isPart_2 : decode cX7_isPart 2 = .ok (.iconst (-1), 1) := by decide +kernel
theorem dX7_isPart_3 : decode cX7_isPart 3 = .ok (.ixor, 1) := by decide +kernel
theorem dX7_isPart_4 : decode cX7_isPart 4 = .ok (.iand, 1) := by decide +kernel
theorem dX7_isPart_5 : decode cX7_isPart 5 = .ok (.ifCond .ne 15, 3) := by decide +kernel
theorem dX7_isPart_8 : decode cX7_isPart 8 = .ok (.iload_n 0, 1) := by decide +kernel
theorem dX7_isPart_9 : decode cX7_isPart 9 = .ok (.invokestatic 107, 3) := by decide +kernel
theorem dX7_isPart_12 : decode cX7_isPart 12 = .ok (.iload_n 2, 1) := by decide +kernel
theorem dX7_isPart_13 : decode cX7_isPart 13 = .ok (.if_icmp .ne 7, 3) := by decide +kernel
theorem dX7_isPart_16 : decode cX7_isPart 16 = .ok (.iconst 1, 1) := by decide +kernel
theorem dX7_isPart_17 : decode cX7_isPart 17 = .ok (.goto 4, 3) := by decide +kernel
theorem dX7_isPart_20 : decode cX7_isPart 20 = .ok (.iconst 0, 1) := by decide +kernel
theorem dX7_isPart_21 : decode cX7_isPart 21 = .ok (.ireturn, 1) := by decide +kernel
theorem dX7_unlikeWords_0 : decode cX7_unlikeWords 0 = .ok (.iconst 0, 1) := by decide +kernel
theorem dX7_unlikeWords_1 : decode cX7_unlikeWords 1 = .ok (.istore_n 3, 1) := by decide +kernel
theorem dX7_unlikeWords_2 : decode cX7_unlikeWords 2 = .ok (.iconst 0, 1) := by decide +kernel
theorem dX7_unlikeWords_3 : decode cX7_unlikeWords 3 = .ok (.istore 4, 2) := by decide +kernel
theorem dX7_unlikeWords_5 : decode cX7_unlikeWords 5 = .ok (.iload 4, 2) := by decide +kernel
theorem dX7_unlikeWords_7 : decode cX7_unlikeWords 7 = .ok (.bipush 8, 2) := by decide +kernel
theorem dX7_unlikeWords_9 : decode cX7_unlikeWords 9 = .ok (.if_icmp .ge 37, 3) := by decide +kernel
theorem dX7_unlikeWords_12 : decode cX7_unlikeWords 12 = .ok (.aload_n 0, 1) := by decide +kernel
theorem dX7_unlikeWords_13 : decode cX7_unlikeWords 13 = .ok (.getfield 25, 3) := by decide +kernel
theorem dX7_unlikeWords_16 : decode cX7_unlikeWords 16 = .ok (.iload_n 1, 1) := by decide +kernel
theorem dX7_unlikeWords_17 : decode cX7_unlikeWords 17 = .ok (.aaload, 1) := by decide +kernel
theorem dX7_unlikeWords_18 : decode cX7_unlikeWords 18 = .ok (.iload 4, 2) := by decide +kernel
theorem dX7_unlikeWords_20 : decode cX7_unlikeWords 20 = .ok (.iaload, 1) := by decide +kernel
theorem dX7_unlikeWords_21 : decode cX7_unlikeWords 21 = .ok (.aload_n 0, 1) := by decide +kernel
theorem dX7_unlikeWords_22 : decode cX7_unlikeWords 22 = .ok (.getfield 25, 3) := by decide +kernel
theorem dX7_unlikeWords_25 : decode cX7_unlikeWords 25 = .ok (.iload_n 2, 1) := by decide +kernel
theorem dX7_unlikeWords_26 : decode cX7_unlikeWords 26 = .ok (.aaload, 1) := by decide +kernel
theorem dX7_unlikeWords_27 : decode cX7_unlikeWords 27 = .ok (.iload 4, 2) := by decide +kernel
theorem dX7_unlikeWords_29 : decode cX7_unlikeWords 29 = .ok (.iaload, 1) := by decide +kernel
theorem dX7_unlikeWords_30 : decode cX7_unlikeWords 30 = .ok (.if_icmp .eq 10, 3) := by decide +kernel
theorem dX7_unlikeWords_33 : decode cX7_unlikeWords 33 = .ok (.iload_n 3, 1) := by decide +kernel
theorem dX7_unlikeWords_34 : decode cX7_unlikeWords 34 = .ok (.iconst 1, 1) := by decide +kernel
theorem dX7_unlikeWords_35 : decode cX7_unlikeWords 35 = .ok (.iload 4, 2) := by decide +kernel
theorem dX7_unlikeWords_37 : decode cX7_unlikeWords 37 = .ok (.ishl, 1) := by decide +kernel
theorem dX7_unlikeWords_38 : decode cX7_unlikeWords 38 = .ok (.ior, 1) := by decide +kernel
theorem dX7_unlikeWords_39 : decode cX7_unlikeWords 39 = .ok (.istore_n 3, 1) := by decide +kernel
theorem dX7_unlikeWords_40 : decode cX7_unlikeWords 40 = .ok (.iinc 4 1, 3) := by decide +kernel
theorem dX7_unlikeWords_43 : decode cX7_unlikeWords 43 = .ok (.goto (-38), 3) := by decide +kernel
theorem dX7_unlikeWords_46 : decode cX7_unlikeWords 46 = .ok (.iload_n 3, 1) := by decide +kernel
theorem dX7_unlikeWords_47 : decode cX7_unlikeWords 47 = .ok (.ireturn, 1) := by decide +kernel
theorem dX7_wordsUnlikeIn_0 : decode cX7_wordsUnlikeIn 0 = .ok (.iload_n 1, 1) := by decide +kernel
theorem dX7_wordsUnlikeIn_1 : decode cX7_wordsUnlikeIn 1 = .ok (.invokestatic 245, 3) := by decide +kernel
theorem dX7_wordsUnlikeIn_4 : decode cX7_wordsUnlikeIn 4 = .ok (.istore_n 2, 1) := by decide +kernel
theorem dX7_wordsUnlikeIn_5 : decode cX7_wordsUnlikeIn 5 = .ok (.iconst 0, 1) := by decide +kernel
theorem dX7_wordsUnlikeIn_6 : decode cX7_wordsUnlikeIn 6 = .ok (.istore_n 3, 1) := by decide +kernel
theorem dX7_wordsUnlikeIn_7 : decode cX7_wordsUnlikeIn 7 = .ok (.iload_n 2, 1) := by decide +kernel
theorem dX7_wordsUnlikeIn_8 : decode cX7_wordsUnlikeIn 8 = .ok (.iconst 1, 1) := by decide +kernel
theorem dX7_wordsUnlikeIn_9 : decode cX7_wordsUnlikeIn 9 = .ok (.iadd, 1) := by decide +kernel
theorem dX7_wordsUnlikeIn_10 : decode cX7_wordsUnlikeIn 10 = .ok (.istore 4, 2) := by decide +kernel
theorem dX7_wordsUnlikeIn_12 : decode cX7_wordsUnlikeIn 12 = .ok (.iload 4, 2) := by decide +kernel
theorem dX7_wordsUnlikeIn_14 : decode cX7_wordsUnlikeIn 14 = .ok (.bipush 8, 2) := by decide +kernel
theorem dX7_wordsUnlikeIn_16 : decode cX7_wordsUnlikeIn 16 = .ok (.if_icmp .ge 28, 3) := by decide +kernel
theorem dX7_wordsUnlikeIn_19 : decode cX7_wordsUnlikeIn 19 = .ok (.iload_n 1, 1) := by decide +kernel
theorem dX7_wordsUnlikeIn_20 : decode cX7_wordsUnlikeIn 20 = .ok (.iload 4, 2) := by decide +kernel
theorem dX7_wordsUnlikeIn_22 : decode cX7_wordsUnlikeIn 22 = .ok (.iushr, 1) := by decide +kernel
theorem dX7_wordsUnlikeIn_23 : decode cX7_wordsUnlikeIn 23 = .ok (.iconst 1, 1) := by decide +kernel
theorem dX7_wordsUnlikeIn_24 : decode cX7_wordsUnlikeIn 24 = .ok (.iand, 1) := by decide +kernel
theorem dX7_wordsUnlikeIn_25 : decode cX7_wordsUnlikeIn 25 = .ok (.ifCond .eq 13, 3) := by decide +kernel
theorem dX7_wordsUnlikeIn_28 : decode cX7_wordsUnlikeIn 28 = .ok (.iload_n 3, 1) := by decide +kernel
theorem dX7_wordsUnlikeIn_29 : decode cX7_wordsUnlikeIn 29 = .ok (.aload_n 0, 1) := by decide +kernel
theorem dX7_wordsUnlikeIn_30 : decode cX7_wordsUnlikeIn 30 = .ok (.iload_n 2, 1) := by decide +kernel
theorem dX7_wordsUnlikeIn_31 : decode cX7_wordsUnlikeIn 31 = .ok (.iload 4, 2) := by decide +kernel
theorem dX7_wordsUnlikeIn_33 : decode cX7_wordsUnlikeIn 33 = .ok (.invokevirtual 103, 3) := by decide +kernel
theorem dX7_wordsUnlikeIn_36 : decode cX7_wordsUnlikeIn 36 = .ok (.ior, 1) := by decide +kernel
theorem dX7_wordsUnlikeIn_37 : decode cX7_wordsUnlikeIn 37 = .ok (.istore_n 3, 1) := by decide +kernel
theorem dX7_wordsUnlikeIn_38 : decode cX7_wordsUnlikeIn 38 = .ok (.iinc 4 1, 3) := by decide +kernel
theorem dX7_wordsUnlikeIn_41 : decode cX7_wordsUnlikeIn 41 = .ok (.goto (-29), 3) := by decide +kernel
theorem dX7_wordsUnlikeIn_44 : decode cX7_wordsUnlikeIn 44 = .ok (.iload_n 3, 1) := by decide +kernel
theorem dX7_wordsUnlikeIn_45 : decode cX7_wordsUnlikeIn 45 = .ok (.ireturn, 1) := by decide +kernel
theorem dX7_buildBoth_0 : decode cX7_buildBoth 0 = .ok (.aload_n 0, 1) := by decide +kernel
theorem dX7_buildBoth_1 : decode cX7_buildBoth 1 = .ok (.getfield 33, 3) := by decide +kernel
theorem dX7_buildBoth_4 : decode cX7_buildBoth 4 = .ok (.aload_n 0, 1) := by decide +kernel
theorem dX7_buildBoth_5 : decode cX7_buildBoth 5 = .ok (.getfield 25, 3) := by decide +kernel
theorem dX7_buildBoth_8 : decode cX7_buildBoth 8 = .ok (.iload_n 1, 1) := by decide +kernel
theorem dX7_buildBoth_9 : decode cX7_buildBoth 9 = .ok (.aaload, 1) := by decide +kernel
theorem dX7_buildBoth_10 : decode cX7_buildBoth 10 = .ok (.iload_n 3, 1) := by decide +kernel
theorem dX7_buildBoth_11 : decode cX7_buildBoth 11 = .ok (.invokevirtual 138, 3) := by decide +kernel
theorem dX7_buildBoth_14 : decode cX7_buildBoth 14 = .ok (.aload_n 0, 1) := by decide +kernel
theorem dX7_buildBoth_15 : decode cX7_buildBoth 15 = .ok (.getfield 37, 3) := by decide +kernel
theorem dX7_buildBoth_18 : decode cX7_buildBoth 18 = .ok (.aload_n 0, 1) := by decide +kernel
theorem dX7_buildBoth_19 : decode cX7_buildBoth 19 = .ok (.getfield 25, 3) := by decide +kernel
theorem dX7_buildBoth_22 : decode cX7_buildBoth 22 = .ok (.iload_n 2, 1) := by decide +kernel
theorem dX7_buildBoth_23 : decode cX7_buildBoth 23 = .ok (.aaload, 1) := by decide +kernel
theorem dX7_buildBoth_24 : decode cX7_buildBoth 24 = .ok (.iload_n 3, 1) := by decide +kernel
theorem dX7_buildBoth_25 : decode cX7_buildBoth 25 = .ok (.invokevirtual 138, 3) := by decide +kernel
theorem dX7_buildBoth_28 : decode cX7_buildBoth 28 = .ok (.return_, 1) := by decide +kernel
theorem dX7_sameThing_0 : decode cX7_sameThing 0 = .ok (.aload_n 0, 1) := by decide +kernel
theorem dX7_sameThing_1 : decode cX7_sameThing 1 = .ok (.getfield 33, 3) := by decide +kernel
theorem dX7_sameThing_4 : decode cX7_sameThing 4 = .ok (.getfield 142, 3) := by decide +kernel
theorem dX7_sameThing_7 : decode cX7_sameThing 7 = .ok (.iload_n 1, 1) := by decide +kernel
theorem dX7_sameThing_8 : decode cX7_sameThing 8 = .ok (.baload, 1) := by decide +kernel
theorem dX7_sameThing_9 : decode cX7_sameThing 9 = .ok (.ifCond .ne 15, 3) := by decide +kernel
theorem dX7_sameThing_12 : decode cX7_sameThing 12 = .ok (.aload_n 0, 1) := by decide +kernel
theorem dX7_sameThing_13 : decode cX7_sameThing 13 = .ok (.getfield 37, 3) := by decide +kernel
theorem dX7_sameThing_16 : decode cX7_sameThing 16 = .ok (.getfield 142, 3) := by decide +kernel
theorem dX7_sameThing_19 : decode cX7_sameThing 19 = .ok (.iload_n 1, 1) := by decide +kernel
theorem dX7_sameThing_20 : decode cX7_sameThing 20 = .ok (.baload, 1) := by decide +kernel
theorem dX7_sameThing_21 : decode cX7_sameThing 21 = .ok (.ifCond .eq 33, 3) := by decide +kernel
theorem dX7_sameThing_24 : decode cX7_sameThing 24 = .ok (.aload_n 0, 1) := by decide +kernel
theorem dX7_sameThing_25 : decode cX7_sameThing 25 = .ok (.getfield 33, 3) := by decide +kernel
theorem dX7_sameThing_28 : decode cX7_sameThing 28 = .ok (.getfield 142, 3) := by decide +kernel
theorem dX7_sameThing_31 : decode cX7_sameThing 31 = .ok (.iload_n 1, 1) := by decide +kernel
theorem dX7_sameThing_32 : decode cX7_sameThing 32 = .ok (.baload, 1) := by decide +kernel
theorem dX7_sameThing_33 : decode cX7_sameThing 33 = .ok (.ifCond .eq 19, 3) := by decide +kernel
theorem dX7_sameThing_36 : decode cX7_sameThing 36 = .ok (.aload_n 0, 1) := by decide +kernel
theorem dX7_sameThing_37 : decode cX7_sameThing 37 = .ok (.getfield 37, 3) := by decide +kernel
theorem dX7_sameThing_40 : decode cX7_sameThing 40 = .ok (.getfield 142, 3) := by decide +kernel
theorem dX7_sameThing_43 : decode cX7_sameThing 43 = .ok (.iload_n 1, 1) := by decide +kernel
theorem dX7_sameThing_44 : decode cX7_sameThing 44 = .ok (.baload, 1) := by decide +kernel
theorem dX7_sameThing_45 : decode cX7_sameThing 45 = .ok (.ifCond .eq 7, 3) := by decide +kernel
theorem dX7_sameThing_48 : decode cX7_sameThing 48 = .ok (.iconst 1, 1) := by decide +kernel
theorem dX7_sameThing_49 : decode cX7_sameThing 49 = .ok (.goto 4, 3) := by decide +kernel
theorem dX7_sameThing_52 : decode cX7_sameThing 52 = .ok (.iconst 0, 1) := by decide +kernel
theorem dX7_sameThing_53 : decode cX7_sameThing 53 = .ok (.ireturn, 1) := by decide +kernel
theorem dX7_sameThing_54 : decode cX7_sameThing 54 = .ok (.aload_n 0, 1) := by decide +kernel
theorem dX7_sameThing_55 : decode cX7_sameThing 55 = .ok (.getfield 33, 3) := by decide +kernel
theorem dX7_sameThing_58 : decode cX7_sameThing 58 = .ok (.getfield 146, 3) := by decide +kernel
theorem dX7_sameThing_61 : decode cX7_sameThing 61 = .ok (.iload_n 1, 1) := by decide +kernel
theorem dX7_sameThing_62 : decode cX7_sameThing 62 = .ok (.aaload, 1) := by decide +kernel
theorem dX7_sameThing_63 : decode cX7_sameThing 63 = .ok (.aload_n 0, 1) := by decide +kernel
theorem dX7_sameThing_64 : decode cX7_sameThing 64 = .ok (.getfield 37, 3) := by decide +kernel
theorem dX7_sameThing_67 : decode cX7_sameThing 67 = .ok (.getfield 146, 3) := by decide +kernel
theorem dX7_sameThing_70 : decode cX7_sameThing 70 = .ok (.iload_n 1, 1) := by decide +kernel
theorem dX7_sameThing_71 : decode cX7_sameThing 71 = .ok (.aaload, 1) := by decide +kernel
theorem dX7_sameThing_72 : decode cX7_sameThing 72 = .ok (.invokevirtual 248, 3) := by decide +kernel
theorem dX7_sameThing_75 : decode cX7_sameThing 75 = .ok (.ireturn, 1) := by decide +kernel
theorem dX7_isFixedBy_0 : decode cX7_isFixedBy 0 = .ok (.iconst 0, 1) := by decide +kernel
theorem dX7_isFixedBy_1 : decode cX7_isFixedBy 1 = .ok (.istore 5, 2) := by decide +kernel
theorem dX7_isFixedBy_3 : decode cX7_isFixedBy 3 = .ok (.iload 5, 2) := by decide +kernel
theorem dX7_isFixedBy_5 : decode cX7_isFixedBy 5 = .ok (.bipush 8, 2) := by decide +kernel
theorem dX7_isFixedBy_7 : decode cX7_isFixedBy 7 = .ok (.if_icmp .ge 40, 3) := by decide +kernel
theorem dX7_isFixedBy_10 : decode cX7_isFixedBy 10 = .ok (.aload_n 0, 1) := by decide +kernel
theorem dX7_isFixedBy_11 : decode cX7_isFixedBy 11 = .ok (.getfield 37, 3) := by decide +kernel
theorem dX7_isFixedBy_14 : decode cX7_isFixedBy 14 = .ok (.iload 5, 2) := by decide +kernel
theorem dX7_isFixedBy_16 : decode cX7_isFixedBy 16 = .ok (.aload_n 0, 1) := by decide +kernel
theorem dX7_isFixedBy_17 : decode cX7_isFixedBy 17 = .ok (.getfield 25, 3) := by decide +kernel
theorem dX7_isFixedBy_20 : decode cX7_isFixedBy 20 = .ok (.iload_n 1, 1) := by decide +kernel
theorem dX7_isFixedBy_21 : decode cX7_isFixedBy 21 = .ok (.iload 5, 2) := by decide +kernel
theorem dX7_isFixedBy_23 : decode cX7_isFixedBy 23 = .ok (.iushr, 1) := by decide +kernel
theorem dX7_isFixedBy_24 : decode cX7_isFixedBy 24 = .ok (.iconst 1, 1) := by decide +kernel
theorem dX7_isFixedBy_25 : decode cX7_isFixedBy 25 = .ok (.iand, 1) := by decide +kernel
theorem dX7_isFixedBy_26 : decode cX7_isFixedBy 26 = .ok (.ifCond .eq 7, 3) := by decide +kernel
theorem dX7_isFixedBy_29 : decode cX7_isFixedBy 29 = .ok (.iload_n 2, 1) := by decide +kernel
theorem dX7_isFixedBy_30 : decode cX7_isFixedBy 30 = .ok (.goto 4, 3) := by decide +kernel
theorem dX7_isFixedBy_33 : decode cX7_isFixedBy 33 = .ok (.iload_n 3, 1) := by decide +kernel
theorem dX7_isFixedBy_34 : decode cX7_isFixedBy 34 = .ok (.aaload, 1) := by decide +kernel
theorem dX7_isFixedBy_35 : decode cX7_isFixedBy 35 = .ok (.iload 5, 2) := by decide +kernel
theorem dX7_isFixedBy_37 : decode cX7_isFixedBy 37 = .ok (.iaload, 1) := by decide +kernel
theorem dX7_isFixedBy_38 : decode cX7_isFixedBy 38 = .ok (.invokevirtual 252, 3) := by decide +kernel
theorem dX7_isFixedBy_41 : decode cX7_isFixedBy 41 = .ok (.iinc 5 1, 3) := by decide +kernel
theorem dX7_isFixedBy_44 : decode cX7_isFixedBy 44 = .ok (.goto (-41), 3) := by decide +kernel
theorem dX7_isFixedBy_47 : decode cX7_isFixedBy 47 = .ok (.aload_n 0, 1) := by decide +kernel
theorem dX7_isFixedBy_48 : decode cX7_isFixedBy 48 = .ok (.getfield 37, 3) := by decide +kernel
theorem dX7_isFixedBy_51 : decode cX7_isFixedBy 51 = .ok (.aload_n 0, 1) := by decide +kernel
theorem dX7_isFixedBy_52 : decode cX7_isFixedBy 52 = .ok (.getfield 19, 3) := by decide +kernel
theorem dX7_isFixedBy_55 : decode cX7_isFixedBy 55 = .ok (.getfield 153, 3) := by decide +kernel
theorem dX7_isFixedBy_58 : decode cX7_isFixedBy 58 = .ok (.iload 4, 2) := by decide +kernel
theorem dX7_isFixedBy_60 : decode cX7_isFixedBy 60 = .ok (.iaload, 1) := by decide +kernel
theorem dX7_isFixedBy_61 : decode cX7_isFixedBy 61 = .ok (.invokevirtual 174, 3) := by decide +kernel
theorem dX7_isFixedBy_64 : decode cX7_isFixedBy 64 = .ok (.aload_n 0, 1) := by decide +kernel
theorem dX7_isFixedBy_65 : decode cX7_isFixedBy 65 = .ok (.iload 4, 2) := by decide +kernel
theorem dX7_isFixedBy_67 : decode cX7_isFixedBy 67 = .ok (.invokevirtual 182, 3) := by decide +kernel
theorem dX7_isFixedBy_70 : decode cX7_isFixedBy 70 = .ok (.ireturn, 1) := by decide +kernel
theorem dX7_firstUnlike_0 : decode cX7_firstUnlike 0 = .ok (.aload_n 0, 1) := by decide +kernel
theorem dX7_firstUnlike_1 : decode cX7_firstUnlike 1 = .ok (.getfield 19, 3) := by decide +kernel
theorem dX7_firstUnlike_4 : decode cX7_firstUnlike 4 = .ok (.getfield 199, 3) := by decide +kernel
theorem dX7_firstUnlike_7 : decode cX7_firstUnlike 7 = .ok (.iload_n 2, 1) := by decide +kernel
theorem dX7_firstUnlike_8 : decode cX7_firstUnlike 8 = .ok (.iaload, 1) := by decide +kernel
theorem dX7_firstUnlike_9 : decode cX7_firstUnlike 9 = .ok (.iload_n 3, 1) := by decide +kernel
theorem dX7_firstUnlike_10 : decode cX7_firstUnlike 10 = .ok (.iushr, 1) := by decide +kernel
theorem dX7_firstUnlike_11 : decode cX7_firstUnlike 11 = .ok (.iconst 1, 1) := by decide +kernel
theorem dX7_firstUnlike_12 : decode cX7_firstUnlike 12 = .ok (.iand, 1) := by decide +kernel
theorem dX7_firstUnlike_13 : decode cX7_firstUnlike 13 = .ok (.ifCond .ne 5, 3) := by decide +kernel
theorem dX7_firstUnlike_16 : decode cX7_firstUnlike 16 = .ok (.iconst (-1), 1) := by decide +kernel
theorem dX7_firstUnlike_17 : decode cX7_firstUnlike 17 = .ok (.ireturn, 1) := by decide +kernel
theorem dX7_firstUnlike_18 : decode cX7_firstUnlike 18 = .ok (.aload_n 0, 1) := by decide +kernel
theorem dX7_firstUnlike_19 : decode cX7_firstUnlike 19 = .ok (.getfield 33, 3) := by decide +kernel
theorem dX7_firstUnlike_22 : decode cX7_firstUnlike 22 = .ok (.aload_n 0, 1) := by decide +kernel
theorem dX7_firstUnlike_23 : decode cX7_firstUnlike 23 = .ok (.getfield 25, 3) := by decide +kernel
theorem dX7_firstUnlike_26 : decode cX7_firstUnlike 26 = .ok (.iload_n 1, 1) := by decide +kernel
theorem dX7_firstUnlike_27 : decode cX7_firstUnlike 27 = .ok (.aaload, 1) := by decide +kernel
theorem dX7_firstUnlike_28 : decode cX7_firstUnlike 28 = .ok (.iload_n 2, 1) := by decide +kernel
theorem dX7_firstUnlike_29 : decode cX7_firstUnlike 29 = .ok (.invokevirtual 138, 3) := by decide +kernel
theorem dX7_firstUnlike_32 : decode cX7_firstUnlike 32 = .ok (.aload_n 0, 1) := by decide +kernel
theorem dX7_firstUnlike_33 : decode cX7_firstUnlike 33 = .ok (.getfield 37, 3) := by decide +kernel
theorem dX7_firstUnlike_36 : decode cX7_firstUnlike 36 = .ok (.aload_n 0, 1) := by decide +kernel
theorem dX7_firstUnlike_37 : decode cX7_firstUnlike 37 = .ok (.getfield 25, 3) := by decide +kernel
theorem dX7_firstUnlike_40 : decode cX7_firstUnlike 40 = .ok (.iload_n 1, 1) := by decide +kernel
theorem dX7_firstUnlike_41 : decode cX7_firstUnlike 41 = .ok (.aaload, 1) := by decide +kernel
theorem dX7_firstUnlike_42 : decode cX7_firstUnlike 42 = .ok (.iload_n 2, 1) := by decide +kernel
theorem dX7_firstUnlike_43 : decode cX7_firstUnlike 43 = .ok (.invokevirtual 138, 3) := by decide +kernel
theorem dX7_firstUnlike_46 : decode cX7_firstUnlike 46 = .ok (.iconst 0, 1) := by decide +kernel
theorem dX7_firstUnlike_47 : decode cX7_firstUnlike 47 = .ok (.istore 5, 2) := by decide +kernel
theorem dX7_firstUnlike_49 : decode cX7_firstUnlike 49 = .ok (.iload 5, 2) := by decide +kernel
theorem dX7_firstUnlike_51 : decode cX7_firstUnlike 51 = .ok (.iload 4, 2) := by decide +kernel
theorem dX7_firstUnlike_53 : decode cX7_firstUnlike 53 = .ok (.if_icmp .gt 46, 3) := by decide +kernel
theorem dX7_firstUnlike_56 : decode cX7_firstUnlike 56 = .ok (.aload_n 0, 1) := by decide +kernel
theorem dX7_firstUnlike_57 : decode cX7_firstUnlike 57 = .ok (.getfield 37, 3) := by decide +kernel
theorem dX7_firstUnlike_60 : decode cX7_firstUnlike 60 = .ok (.iload_n 3, 1) := by decide +kernel
theorem dX7_firstUnlike_61 : decode cX7_firstUnlike 61 = .ok (.iload 5, 2) := by decide +kernel
theorem dX7_firstUnlike_63 : decode cX7_firstUnlike 63 = .ok (.invokevirtual 252, 3) := by decide +kernel
theorem dX7_firstUnlike_66 : decode cX7_firstUnlike 66 = .ok (.aload_n 0, 1) := by decide +kernel
theorem dX7_firstUnlike_67 : decode cX7_firstUnlike 67 = .ok (.getfield 37, 3) := by decide +kernel
theorem dX7_firstUnlike_70 : decode cX7_firstUnlike 70 = .ok (.aload_n 0, 1) := by decide +kernel
theorem dX7_firstUnlike_71 : decode cX7_firstUnlike 71 = .ok (.getfield 19, 3) := by decide +kernel
theorem dX7_firstUnlike_74 : decode cX7_firstUnlike 74 = .ok (.getfield 153, 3) := by decide +kernel
theorem dX7_firstUnlike_77 : decode cX7_firstUnlike 77 = .ok (.iload_n 2, 1) := by decide +kernel
theorem dX7_firstUnlike_78 : decode cX7_firstUnlike 78 = .ok (.iaload, 1) := by decide +kernel
theorem dX7_firstUnlike_79 : decode cX7_firstUnlike 79 = .ok (.invokevirtual 174, 3) := by decide +kernel
theorem dX7_firstUnlike_82 : decode cX7_firstUnlike 82 = .ok (.aload_n 0, 1) := by decide +kernel
theorem dX7_firstUnlike_83 : decode cX7_firstUnlike 83 = .ok (.iload_n 2, 1) := by decide +kernel
theorem dX7_firstUnlike_84 : decode cX7_firstUnlike 84 = .ok (.invokevirtual 182, 3) := by decide +kernel
theorem dX7_firstUnlike_87 : decode cX7_firstUnlike 87 = .ok (.ifCond .ne 6, 3) := by decide +kernel
theorem dX7_firstUnlike_90 : decode cX7_firstUnlike 90 = .ok (.iload 5, 2) := by decide +kernel
theorem dX7_firstUnlike_92 : decode cX7_firstUnlike 92 = .ok (.ireturn, 1) := by decide +kernel
theorem dX7_firstUnlike_93 : decode cX7_firstUnlike 93 = .ok (.iinc 5 1, 3) := by decide +kernel
theorem dX7_firstUnlike_96 : decode cX7_firstUnlike 96 = .ok (.goto (-47), 3) := by decide +kernel
theorem dX7_firstUnlike_99 : decode cX7_firstUnlike 99 = .ok (.iconst (-1), 1) := by decide +kernel
theorem dX7_firstUnlike_100 : decode cX7_firstUnlike 100 = .ok (.ireturn, 1) := by decide +kernel
theorem dX8_init_0 : decode cX8_init 0 = .ok (.aload_n 0, 1) := by decide +kernel
theorem dX8_init_1 : decode cX8_init 1 = .ok (.invokespecial 1, 3) := by decide +kernel
theorem dX8_init_4 : decode cX8_init 4 = .ok (.aload_n 0, 1) := by decide +kernel
theorem dX8_init_5 : decode cX8_init 5 = .ok (.bipush 60, 2) := by decide +kernel
theorem dX8_init_7 : decode cX8_init 7 = .ok (.newarray .int, 2) := by decide +kernel
theorem dX8_init_9 : decode cX8_init 9 = .ok (.putfield 7, 3) := by decide +kernel
theorem dX8_init_12 : decode cX8_init 12 = .ok (.aload_n 0, 1) := by decide +kernel
theorem dX8_init_13 : decode cX8_init 13 = .ok (.bipush 20, 2) := by decide +kernel
theorem dX8_init_15 : decode cX8_init 15 = .ok (.newarray .int, 2) := by decide +kernel
theorem dX8_init_17 : decode cX8_init 17 = .ok (.putfield 13, 3) := by decide +kernel
theorem dX8_init_20 : decode cX8_init 20 = .ok (.aload_n 0, 1) := by decide +kernel
theorem dX8_init_21 : decode cX8_init 21 = .ok (.sipush 1200, 3) := by decide +kernel
theorem dX8_init_24 : decode cX8_init 24 = .ok (.newarray .int, 2) := by decide +kernel
theorem dX8_init_26 : decode cX8_init 26 = .ok (.putfield 16, 3) := by decide +kernel
theorem dX8_init_29 : decode cX8_init 29 = .ok (.aload_n 0, 1) := by decide +kernel
theorem dX8_init_30 : decode cX8_init 30 = .ok (.bipush 20, 2) := by decide +kernel
theorem dX8_init_32 : decode cX8_init 32 = .ok (.newarray .boolean, 2) := by decide +kernel
theorem dX8_init_34 : decode cX8_init 34 = .ok (.putfield 19, 3) := by decide +kernel
theorem dX8_init_37 : decode cX8_init 37 = .ok (.aload_n 0, 1) := by decide +kernel
theorem dX8_init_38 : decode cX8_init 38 = .ok (.bipush 64, 2) := by decide +kernel
theorem dX8_init_40 : decode cX8_init 40 = .ok (.newarray .int, 2) := by decide +kernel
theorem dX8_init_42 : decode cX8_init 42 = .ok (.putfield 23, 3) := by decide +kernel
theorem dX8_init_45 : decode cX8_init 45 = .ok (.aload_n 0, 1) := by decide +kernel
theorem dX8_init_46 : decode cX8_init 46 = .ok (.bipush 24, 2) := by decide +kernel
theorem dX8_init_48 : decode cX8_init 48 = .ok (.newarray .int, 2) := by decide +kernel
theorem dX8_init_50 : decode cX8_init 50 = .ok (.putfield 26, 3) := by decide +kernel
theorem dX8_init_53 : decode cX8_init 53 = .ok (.aload_n 0, 1) := by decide +kernel
theorem dX8_init_54 : decode cX8_init 54 = .ok (.bipush 24, 2) := by decide +kernel
theorem dX8_init_56 : decode cX8_init 56 = .ok (.newarray .int, 2) := by decide +kernel
theorem dX8_init_58 : decode cX8_init 58 = .ok (.putfield 29, 3) := by decide +kernel
theorem dX8_init_61 : decode cX8_init 61 = .ok (.aload_n 0, 1) := by decide +kernel
theorem dX8_init_62 : decode cX8_init 62 = .ok (.bipush 24, 2) := by decide +kernel
theorem dX8_init_64 : decode cX8_init 64 = .ok (.newarray .int, 2) := by decide +kernel
theorem dX8_init_66 : decode cX8_init 66 = .ok (.putfield 32, 3) := by decide +kernel
theorem dX8_init_69 : decode cX8_init 69 = .ok (.aload_n 0, 1) := by decide +kernel
theorem dX8_init_70 : decode cX8_init 70 = .ok (.bipush 24, 2) := by decide +kernel
theorem dX8_init_72 : decode cX8_init 72 = .ok (.newarray .int, 2) := by decide +kernel
theorem dX8_init_74 : decode cX8_init 74 = .ok (.putfield 35, 3) := by decide +kernel
theorem dX8_init_77 : decode cX8_init 77 = .ok (.aload_n 0, 1) := by decide +kernel
theorem dX8_init_78 : decode cX8_init 78 = .ok (.bipush 96, 2) := by decide +kernel
theorem dX8_init_80 : decode cX8_init 80 = .ok (.newarray .int, 2) := by decide +kernel
theorem dX8_init_82 : decode cX8_init 82 = .ok (.putfield 38, 3) := by decide +kernel
theorem dX8_init_85 : decode cX8_init 85 = .ok (.aload_n 0, 1) := by decide +kernel
theorem dX8_init_86 : decode cX8_init 86 = .ok (.bipush 8, 2) := by decide +kernel
theorem dX8_init_88 : decode cX8_init 88 = .ok (.newarray .int, 2) := by decide +kernel
theorem dX8_init_90 : decode cX8_init 90 = .ok (.putfield 41, 3) := by decide +kernel
theorem dX8_init_93 : decode cX8_init 93 = .ok (.aload_n 0, 1) := by decide +kernel
theorem dX8_init_94 : decode cX8_init 94 = .ok (.bipush 48, 2) := by decide +kernel
theorem dX8_init_96 : decode cX8_init 96 = .ok (.newarray .int, 2) := by decide +kernel
theorem dX8_init_98 : decode cX8_init 98 = .ok (.putfield 44, 3) := by decide +kernel
theorem dX8_init_101 : decode cX8_init 101 = .ok (.aload_n 0, 1) := by decide +kernel
theorem dX8_init_102 : decode cX8_init 102 = .ok (.sipush 9600, 3) := by decide +kernel
theorem dX8_init_105 : decode cX8_init 105 = .ok (.newarray .int, 2) := by decide +kernel
theorem dX8_init_107 : decode cX8_init 107 = .ok (.putfield 47, 3) := by decide +kernel
theorem dX8_init_110 : decode cX8_init 110 = .ok (.aload_n 0, 1) := by decide +kernel
theorem dX8_init_111 : decode cX8_init 111 = .ok (.sipush 800, 3) := by decide +kernel
theorem dX8_init_114 : decode cX8_init 114 = .ok (.newarray .int, 2) := by decide +kernel
theorem dX8_init_116 : decode cX8_init 116 = .ok (.putfield 50, 3) := by decide +kernel
theorem dX8_init_119 : decode cX8_init 119 = .ok (.aload_n 0, 1) := by decide +kernel
theorem dX8_init_120 : decode cX8_init 120 = .ok (.sipush 256, 3) := by decide +kernel
theorem dX8_init_123 : decode cX8_init 123 = .ok (.newarray .int, 2) := by decide +kernel
theorem dX8_init_125 : decode cX8_init 125 = .ok (.putfield 53, 3) := by decide +kernel
theorem dX8_init_128 : decode cX8_init 128 = .ok (.aload_n 0, 1) := by decide +kernel
theorem dX8_init_129 : decode cX8_init 129 = .ok (.bipush 24, 2) := by decide +kernel
theorem dX8_init_131 : decode cX8_init 131 = .ok (.newarray .int, 2) := by decide +kernel
theorem dX8_init_133 : decode cX8_init 133 = .ok (.putfield 56, 3) := by decide +kernel
theorem dX8_init_136 : decode cX8_init 136 = .ok (.aload_n 0, 1) := by decide +kernel
theorem dX8_init_137 : decode cX8_init 137 = .ok (.bipush 20, 2) := by decide +kernel
theorem dX8_init_139 : decode cX8_init 139 = .ok (.newarray .int, 2) := by decide +kernel
theorem dX8_init_141 : decode cX8_init 141 = .ok (.putfield 59, 3) := by decide +kernel
theorem dX8_init_144 : decode cX8_init 144 = .ok (.aload_n 0, 1) := by decide +kernel
theorem dX8_init_145 : decode cX8_init 145 = .ok (.ldc 62, 2) := by decide +kernel
theorem dX8_init_147 : decode cX8_init 147 = .ok (.newarray .long, 2) := by decide +kernel
theorem dX8_init_149 : decode cX8_init 149 = .ok (.putfield 63, 3) := by decide +kernel
theorem dX8_init_152 : decode cX8_init 152 = .ok (.aload_n 0, 1) := by decide +kernel
theorem dX8_init_153 : decode cX8_init 153 = .ok (.ldc 67, 2) := by decide +kernel
theorem dX8_init_155 : decode cX8_init 155 = .ok (.newarray .int, 2) := by decide +kernel
theorem dX8_init_157 : decode cX8_init 157 = .ok (.putfield 68, 3) := by decide +kernel
theorem dX8_init_160 : decode cX8_init 160 = .ok (.aload_n 0, 1) := by decide +kernel
theorem dX8_init_161 : decode cX8_init 161 = .ok (.sipush 400, 3) := by decide +kernel
theorem dX8_init_164 : decode cX8_init 164 = .ok (.newarray .int, 2) := by decide +kernel
theorem dX8_init_166 : decode cX8_init 166 = .ok (.putfield 71, 3) := by decide +kernel
theorem dX8_init_169 : decode cX8_init 169 = .ok (.aload_n 0, 1) := by decide +kernel
theorem dX8_init_170 : decode cX8_init 170 = .ok (.sipush 400, 3) := by decide +kernel
theorem dX8_init_173 : decode cX8_init 173 = .ok (.newarray .int, 2) := by decide +kernel
theorem dX8_init_175 : decode cX8_init 175 = .ok (.putfield 74, 3) := by decide +kernel
theorem dX8_init_178 : decode cX8_init 178 = .ok (.aload_n 0, 1) := by decide +kernel
theorem dX8_init_179 : decode cX8_init 179 = .ok (.sipush 400, 3) := by decide +kernel
theorem dX8_init_182 : decode cX8_init 182 = .ok (.newarray .int, 2) := by decide +kernel
theorem dX8_init_184 : decode cX8_init 184 = .ok (.putfield 77, 3) := by decide +kernel
theorem dX8_init_187 : decode cX8_init 187 = .ok (.aload_n 0, 1) := by decide +kernel
theorem dX8_init_188 : decode cX8_init 188 = .ok (.bipush 30, 2) := by decide +kernel
theorem dX8_init_190 : decode cX8_init 190 = .ok (.newarray .int, 2) := by decide +kernel
theorem dX8_init_192 : decode cX8_init 192 = .ok (.dup, 1) := by decide +kernel
theorem dX8_init_193 : decode cX8_init 193 = .ok (.iconst 0, 1) := by decide +kernel
theorem dX8_init_194 : decode cX8_init 194 = .ok (.iconst (-1), 1) := by decide +kernel
theorem dX8_init_195 : decode cX8_init 195 = .ok (.iastore, 1) := by decide +kernel
theorem dX8_init_196 : decode cX8_init 196 = .ok (.dup, 1) := by decide +kernel
theorem dX8_init_197 : decode cX8_init 197 = .ok (.iconst 1, 1) := by decide +kernel
theorem dX8_init_198 : decode cX8_init 198 = .ok (.iconst (-1), 1) := by decide +kernel
theorem dX8_init_199 : decode cX8_init 199 = .ok (.iastore, 1) := by decide +kernel
theorem dX8_init_200 : decode cX8_init 200 = .ok (.dup, 1) := by decide +kernel
theorem dX8_init_201 : decode cX8_init 201 = .ok (.iconst 2, 1) := by decide +kernel
theorem dX8_init_202 : decode cX8_init 202 = .ok (.iconst (-1), 1) := by decide +kernel
theorem dX8_init_203 : decode cX8_init 203 = .ok (.iastore, 1) := by decide +kernel
theorem dX8_init_204 : decode cX8_init 204 = .ok (.dup, 1) := by decide +kernel
theorem dX8_init_205 : decode cX8_init 205 = .ok (.iconst 3, 1) := by decide +kernel
theorem dX8_init_206 : decode cX8_init 206 = .ok (.iconst (-1), 1) := by decide +kernel
theorem dX8_init_207 : decode cX8_init 207 = .ok (.iastore, 1) := by decide +kernel
theorem dX8_init_208 : decode cX8_init 208 = .ok (.dup, 1) := by decide +kernel
theorem dX8_init_209 : decode cX8_init 209 = .ok (.iconst 4, 1) := by decide +kernel
theorem dX8_init_210 : decode cX8_init 210 = .ok (.iconst (-1), 1) := by decide +kernel
theorem dX8_init_211 : decode cX8_init 211 = .ok (.iastore, 1) := by decide +kernel
theorem dX8_init_212 : decode cX8_init 212 = .ok (.dup, 1) := by decide +kernel
theorem dX8_init_213 : decode cX8_init 213 = .ok (.iconst 5, 1) := by decide +kernel
theorem dX8_init_214 : decode cX8_init 214 = .ok (.iconst (-1), 1) := by decide +kernel
theorem dX8_init_215 : decode cX8_init 215 = .ok (.iastore, 1) := by decide +kernel
theorem dX8_init_216 : decode cX8_init 216 = .ok (.dup, 1) := by decide +kernel
theorem dX8_init_217 : decode cX8_init 217 = .ok (.bipush 6, 2) := by decide +kernel
theorem dX8_init_219 : decode cX8_init 219 = .ok (.iconst (-1), 1) := by decide +kernel
theorem dX8_init_220 : decode cX8_init 220 = .ok (.iastore, 1) := by decide +kernel
theorem dX8_init_221 : decode cX8_init 221 = .ok (.dup, 1) := by decide +kernel
theorem dX8_init_222 : decode cX8_init 222 = .ok (.bipush 7, 2) := by decide +kernel
theorem dX8_init_224 : decode cX8_init 224 = .ok (.iconst (-1), 1) := by decide +kernel
theorem dX8_init_225 : decode cX8_init 225 = .ok (.iastore, 1) := by decide +kernel
theorem dX8_init_226 : decode cX8_init 226 = .ok (.dup, 1) := by decide +kernel
theorem dX8_init_227 : decode cX8_init 227 = .ok (.bipush 8, 2) := by decide +kernel
theorem dX8_init_229 : decode cX8_init 229 = .ok (.iconst (-1), 1) := by decide +kernel
theorem dX8_init_230 : decode cX8_init 230 = .ok (.iastore, 1) := by decide +kernel
theorem dX8_init_231 : decode cX8_init 231 = .ok (.dup, 1) := by decide +kernel
theorem dX8_init_232 : decode cX8_init 232 = .ok (.bipush 9, 2) := by decide +kernel
theorem dX8_init_234 : decode cX8_init 234 = .ok (.iconst (-1), 1) := by decide +kernel
theorem dX8_init_235 : decode cX8_init 235 = .ok (.iastore, 1) := by decide +kernel
theorem dX8_init_236 : decode cX8_init 236 = .ok (.dup, 1) := by decide +kernel
theorem dX8_init_237 : decode cX8_init 237 = .ok (.bipush 10, 2) := by decide +kernel
theorem dX8_init_239 : decode cX8_init 239 = .ok (.iconst (-1), 1) := by decide +kernel
theorem dX8_init_240 : decode cX8_init 240 = .ok (.iastore, 1) := by decide +kernel
theorem dX8_init_241 : decode cX8_init 241 = .ok (.dup, 1) := by decide +kernel
theorem dX8_init_242 : decode cX8_init 242 = .ok (.bipush 11, 2) := by decide +kernel
theorem dX8_init_244 : decode cX8_init 244 = .ok (.iconst (-1), 1) := by decide +kernel
theorem dX8_init_245 : decode cX8_init 245 = .ok (.iastore, 1) := by decide +kernel
theorem dX8_init_246 : decode cX8_init 246 = .ok (.dup, 1) := by decide +kernel
theorem dX8_init_247 : decode cX8_init 247 = .ok (.bipush 12, 2) := by decide +kernel
theorem dX8_init_249 : decode cX8_init 249 = .ok (.iconst (-1), 1) := by decide +kernel
theorem dX8_init_250 : decode cX8_init 250 = .ok (.iastore, 1) := by decide +kernel
theorem dX8_init_251 : decode cX8_init 251 = .ok (.dup, 1) := by decide +kernel
theorem dX8_init_252 : decode cX8_init 252 = .ok (.bipush 13, 2) := by decide +kernel
theorem dX8_init_254 : decode cX8_init 254 = .ok (.iconst (-1), 1) := by decide +kernel
theorem dX8_init_255 : decode cX8_init 255 = .ok (.iastore, 1) := by decide +kernel
theorem dX8_init_256 : decode cX8_init 256 = .ok (.dup, 1) := by decide +kernel
theorem dX8_init_257 : decode cX8_init 257 = .ok (.bipush 14, 2) := by decide +kernel
theorem dX8_init_259 : decode cX8_init 259 = .ok (.iconst (-1), 1) := by decide +kernel
theorem dX8_init_260 : decode cX8_init 260 = .ok (.iastore, 1) := by decide +kernel
theorem dX8_init_261 : decode cX8_init 261 = .ok (.dup, 1) := by decide +kernel
theorem dX8_init_262 : decode cX8_init 262 = .ok (.bipush 15, 2) := by decide +kernel
theorem dX8_init_264 : decode cX8_init 264 = .ok (.iconst (-1), 1) := by decide +kernel
theorem dX8_init_265 : decode cX8_init 265 = .ok (.iastore, 1) := by decide +kernel
theorem dX8_init_266 : decode cX8_init 266 = .ok (.dup, 1) := by decide +kernel
theorem dX8_init_267 : decode cX8_init 267 = .ok (.bipush 16, 2) := by decide +kernel
theorem dX8_init_269 : decode cX8_init 269 = .ok (.iconst (-1), 1) := by decide +kernel
theorem dX8_init_270 : decode cX8_init 270 = .ok (.iastore, 1) := by decide +kernel
theorem dX8_init_271 : decode cX8_init 271 = .ok (.dup, 1) := by decide +kernel
theorem dX8_init_272 : decode cX8_init 272 = .ok (.bipush 17, 2) := by decide +kernel
theorem dX8_init_274 : decode cX8_init 274 = .ok (.iconst (-1), 1) := by decide +kernel
theorem dX8_init_275 : decode cX8_init 275 = .ok (.iastore, 1) := by decide +kernel
theorem dX8_init_276 : decode cX8_init 276 = .ok (.dup, 1) := by decide +kernel
theorem dX8_init_277 : decode cX8_init 277 = .ok (.bipush 18, 2) := by decide +kernel
theorem dX8_init_279 : decode cX8_init 279 = .ok (.iconst (-1), 1) := by decide +kernel
theorem dX8_init_280 : decode cX8_init 280 = .ok (.iastore, 1) := by decide +kernel
theorem dX8_init_281 : decode cX8_init 281 = .ok (.dup, 1) := by decide +kernel
theorem dX8_init_282 : decode cX8_init 282 = .ok (.bipush 19, 2) := by decide +kernel
theorem dX8_init_284 : decode cX8_init 284 = .ok (.iconst (-1), 1) := by decide +kernel
theorem dX8_init_285 : decode cX8_init 285 = .ok (.iastore, 1) := by decide +kernel
theorem dX8_init_286 : decode cX8_init 286 = .ok (.dup, 1) := by decide +kernel
theorem dX8_init_287 : decode cX8_init 287 = .ok (.bipush 20, 2) := by decide +kernel
theorem dX8_init_289 : decode cX8_init 289 = .ok (.iconst (-1), 1) := by decide +kernel
theorem dX8_init_290 : decode cX8_init 290 = .ok (.iastore, 1) := by decide +kernel
theorem dX8_init_291 : decode cX8_init 291 = .ok (.dup, 1) := by decide +kernel
theorem dX8_init_292 : decode cX8_init 292 = .ok (.bipush 21, 2) := by decide +kernel
theorem dX8_init_294 : decode cX8_init 294 = .ok (.iconst (-1), 1) := by decide +kernel
theorem dX8_init_295 : decode cX8_init 295 = .ok (.iastore, 1) := by decide +kernel
theorem dX8_init_296 : decode cX8_init 296 = .ok (.dup, 1) := by decide +kernel
theorem dX8_init_297 : decode cX8_init 297 = .ok (.bipush 22, 2) := by decide +kernel
theorem dX8_init_299 : decode cX8_init 299 = .ok (.iconst (-1), 1) := by decide +kernel
theorem dX8_init_300 : decode cX8_init 300 = .ok (.iastore, 1) := by decide +kernel
theorem dX8_init_301 : decode cX8_init 301 = .ok (.dup, 1) := by decide +kernel
theorem dX8_init_302 : decode cX8_init 302 = .ok (.bipush 23, 2) := by decide +kernel
theorem dX8_init_304 : decode cX8_init 304 = .ok (.iconst (-1), 1) := by decide +kernel
theorem dX8_init_305 : decode cX8_init 305 = .ok (.iastore, 1) := by decide +kernel
theorem dX8_init_306 : decode cX8_init 306 = .ok (.dup, 1) := by decide +kernel
theorem dX8_init_307 : decode cX8_init 307 = .ok (.bipush 24, 2) := by decide +kernel
theorem dX8_init_309 : decode cX8_init 309 = .ok (.iconst (-1), 1) := by decide +kernel
theorem dX8_init_310 : decode cX8_init 310 = .ok (.iastore, 1) := by decide +kernel
theorem dX8_init_311 : decode cX8_init 311 = .ok (.dup, 1) := by decide +kernel
theorem dX8_init_312 : decode cX8_init 312 = .ok (.bipush 25, 2) := by decide +kernel
theorem dX8_init_314 : decode cX8_init 314 = .ok (.iconst (-1), 1) := by decide +kernel
theorem dX8_init_315 : decode cX8_init 315 = .ok (.iastore, 1) := by decide +kernel
theorem dX8_init_316 : decode cX8_init 316 = .ok (.dup, 1) := by decide +kernel
theorem dX8_init_317 : decode cX8_init 317 = .ok (.bipush 26, 2) := by decide +kernel
theorem dX8_init_319 : decode cX8_init 319 = .ok (.iconst (-1), 1) := by decide +kernel
theorem dX8_init_320 : decode cX8_init 320 = .ok (.iastore, 1) := by decide +kernel
theorem dX8_init_321 : decode cX8_init 321 = .ok (.dup, 1) := by decide +kernel
theorem dX8_init_322 : decode cX8_init 322 = .ok (.bipush 27, 2) := by decide +kernel
theorem dX8_init_324 : decode cX8_init 324 = .ok (.iconst (-1), 1) := by decide +kernel
theorem dX8_init_325 : decode cX8_init 325 = .ok (.iastore, 1) := by decide +kernel
theorem dX8_init_326 : decode cX8_init 326 = .ok (.dup, 1) := by decide +kernel
theorem dX8_init_327 : decode cX8_init 327 = .ok (.bipush 28, 2) := by decide +kernel
theorem dX8_init_329 : decode cX8_init 329 = .ok (.iconst (-1), 1) := by decide +kernel
theorem dX8_init_330 : decode cX8_init 330 = .ok (.iastore, 1) := by decide +kernel
theorem dX8_init_331 : decode cX8_init 331 = .ok (.dup, 1) := by decide +kernel
theorem dX8_init_332 : decode cX8_init 332 = .ok (.bipush 29, 2) := by decide +kernel
theorem dX8_init_334 : decode cX8_init 334 = .ok (.iconst (-1), 1) := by decide +kernel
theorem dX8_init_335 : decode cX8_init 335 = .ok (.iastore, 1) := by decide +kernel
theorem dX8_init_336 : decode cX8_init 336 = .ok (.putfield 80, 3) := by decide +kernel
theorem dX8_init_339 : decode cX8_init 339 = .ok (.aload_n 0, 1) := by decide +kernel
theorem dX8_init_340 : decode cX8_init 340 = .ok (.bipush 30, 2) := by decide +kernel
theorem dX8_init_342 : decode cX8_init 342 = .ok (.newarray .int, 2) := by decide +kernel
theorem dX8_init_344 : decode cX8_init 344 = .ok (.putfield 83, 3) := by decide +kernel
theorem dX8_init_347 : decode cX8_init 347 = .ok (.aload_n 0, 1) := by decide +kernel
theorem dX8_init_348 : decode cX8_init 348 = .ok (.bipush 30, 2) := by decide +kernel
theorem dX8_init_350 : decode cX8_init 350 = .ok (.newarray .boolean, 2) := by decide +kernel
theorem dX8_init_352 : decode cX8_init 352 = .ok (.putfield 86, 3) := by decide +kernel
theorem dX8_init_355 : decode cX8_init 355 = .ok (.aload_n 0, 1) := by decide +kernel
theorem dX8_init_356 : decode cX8_init 356 = .ok (.bipush 30, 2) := by decide +kernel
theorem dX8_init_358 : decode cX8_init 358 = .ok (.newarray .boolean, 2) := by decide +kernel
theorem dX8_init_360 : decode cX8_init 360 = .ok (.putfield 89, 3) := by decide +kernel
theorem dX8_init_363 : decode cX8_init 363 = .ok (.aload_n 0, 1) := by decide +kernel
theorem dX8_init_364 : decode cX8_init 364 = .ok (.bipush 20, 2) := by decide +kernel
theorem dX8_init_366 : decode cX8_init 366 = .ok (.newarray .boolean, 2) := by decide +kernel
theorem dX8_init_368 : decode cX8_init 368 = .ok (.putfield 92, 3) := by decide +kernel
theorem dX8_init_371 : decode cX8_init 371 = .ok (.return_, 1) := by decide +kernel
theorem dX8_in_0 : decode cX8_in 0 = .ok (.iload_n 0, 1) := by decide +kernel
theorem dX8_in_1 : decode cX8_in 1 = .ok (.iload_n 1, 1) := by decide +kernel
theorem dX8_in_2 : decode cX8_in 2 = .ok (.if_icmp .lt 12, 3) := by decide +kernel
theorem dX8_in_5 : decode cX8_in 5 = .ok (.iload_n 0, 1) := by decide +kernel
theorem dX8_in_6 : decode cX8_in 6 = .ok (.iload_n 2, 1) := by decide +kernel
theorem dX8_in_7 : decode cX8_in 7 = .ok (.if_icmp .gt 7, 3) := by decide +kernel
theorem dX8_in_10 : decode cX8_in 10 = .ok (.iconst 1, 1) := by decide +kernel
theorem dX8_in_11 : decode cX8_in 11 = .ok (.goto 4, 3) := by decide +kernel
theorem dX8_in_14 : decode cX8_in 14 = .ok (.iconst 0, 1) := by decide +kernel
theorem dX8_in_15 : decode cX8_in 15 = .ok (.ireturn, 1) := by decide +kernel
theorem dX8_feed_0 : decode cX8_feed 0 = .ok (.iload_n 1, 1) := by decide +kernel
theorem dX8_feed_1 : decode cX8_feed 1 = .ok (.iconst 1, 1) := by decide +kernel
theorem dX8_feed_2 : decode cX8_feed 2 = .ok (.iconst 4, 1) := by decide +kernel
theorem dX8_feed_3 : decode cX8_feed 3 = .ok (.invokestatic 99, 3) := by decide +kernel
theorem dX8_feed_6 : decode cX8_feed 6 = .ok (.ifCond .ne 5, 3) := by decide +kernel
theorem dX8_feed_9 : decode cX8_feed 9 = .ok (.iconst (-1), 1) := by decide +kernel
theorem dX8_feed_10 : decode cX8_feed 10 = .ok (.ireturn, 1) := by decide +kernel
theorem dX8_feed_11 : decode cX8_feed 11 = .ok (.aload_n 0, 1) := by decide +kernel
theorem dX8_feed_12 : decode cX8_feed 12 = .ok (.getfield 103, 3) := by decide +kernel
theorem dX8_feed_15 : decode cX8_feed 15 = .ok (.iload_n 1, 1) := by decide +kernel
theorem dX8_feed_16 : decode cX8_feed 16 = .ok (.iadd, 1) := by decide +kernel
theorem dX8_feed_17 : decode cX8_feed 17 = .ok (.bipush 60, 2) := by decide +kernel
theorem dX8_feed_19 : decode cX8_feed 19 = .ok (.if_icmp .le 6, 3) := by decide +kernel
theorem dX8_feed_22 : decode cX8_feed 22 = .ok (.bipush (-3), 2) := by decide +kernel
theorem dX8_feed_24 : decode cX8_feed 24 = .ok (.ireturn, 1) := by decide +kernel
theorem dX8_feed_25 : decode cX8_feed 25 = .ok (.iconst 0, 1) := by decide +kernel
theorem dX8_feed_26 : decode cX8_feed 26 = .ok (.istore_n 3, 1) := by decide +kernel
theorem dX8_feed_27 : decode cX8_feed 27 = .ok (.iload_n 3, 1) := by decide +kernel
theorem dX8_feed_28 : decode cX8_feed 28 = .ok (.iload_n 1, 1) := by decide +kernel
theorem dX8_feed_29 : decode cX8_feed 29 = .ok (.if_icmp .ge 38, 3) := by decide +kernel
theorem dX8_feed_32 : decode cX8_feed 32 = .ok (.aload_n 0, 1) := by decide +kernel
theorem dX8_feed_33 : decode cX8_feed 33 = .ok (.getfield 7, 3) := by decide +kernel
theorem dX8_feed_36 : decode cX8_feed 36 = .ok (.aload_n 0, 1) := by decide +kernel
theorem dX8_feed_37 : decode cX8_feed 37 = .ok (.getfield 103, 3) := by decide +kernel
theorem dX8_feed_40 : decode cX8_feed 40 = .ok (.iload_n 2, 1) := by decide +kernel
theorem dX8_feed_41 : decode cX8_feed 41 = .ok (.bipush 8, 2) := by decide +kernel
theorem dX8_feed_43 : decode cX8_feed 43 = .ok (.iload_n 3, 1) := by decide +kernel
theorem dX8_feed_44 : decode cX8_feed 44 = .ok (.imul, 1) := by decide +kernel
theorem dX8_feed_45 : decode cX8_feed 45 = .ok (.ishr, 1) := by decide +kernel
theorem dX8_feed_46 : decode cX8_feed 46 = .ok (.sipush 255, 3) := by decide +kernel
theorem dX8_feed_49 : decode cX8_feed 49 = .ok (.iand, 1) := by decide +kernel
theorem dX8_feed_50 : decode cX8_feed 50 = .ok (.iastore, 1) := by decide +kernel
theorem dX8_feed_51 : decode cX8_feed 51 = .ok (.aload_n 0, 1) := by decide +kernel
theorem dX8_feed_52 : decode cX8_feed 52 = .ok (.dup, 1) := by decide +kernel
theorem dX8_feed_53 : decode cX8_feed 53 = .ok (.getfield 103, 3) := by decide +kernel
theorem dX8_feed_56 : decode cX8_feed 56 = .ok (.iconst 1, 1) := by decide +kernel
theorem dX8_feed_57 : decode cX8_feed 57 = .ok (.iadd, 1) := by decide +kernel
theorem dX8_feed_58 : decode cX8_feed 58 = .ok (.putfield 103, 3) := by decide +kernel
theorem dX8_feed_61 : decode cX8_feed 61 = .ok (.iinc 3 1, 3) := by decide +kernel
theorem dX8_feed_64 : decode cX8_feed 64 = .ok (.goto (-37), 3) := by decide +kernel
theorem dX8_feed_67 : decode cX8_feed 67 = .ok (.aload_n 0, 1) := by decide +kernel
theorem dX8_feed_68 : decode cX8_feed 68 = .ok (.getfield 103, 3) := by decide +kernel
theorem dX8_feed_71 : decode cX8_feed 71 = .ok (.ireturn, 1) := by decide +kernel
theorem dX8_keep_0 : decode cX8_keep 0 = .ok (.aload_n 0, 1) := by decide +kernel
theorem dX8_keep_1 : decode cX8_keep 1 = .ok (.getfield 103, 3) := by decide +kernel
theorem dX8_keep_4 : decode cX8_keep 4 = .ok (.istore_n 2, 1) := by decide +kernel
theorem dX8_keep_5 : decode cX8_keep 5 = .ok (.aload_n 0, 1) := by decide +kernel
theorem dX8_keep_6 : decode cX8_keep 6 = .ok (.getfield 13, 3) := by decide +kernel
theorem dX8_keep_9 : decode cX8_keep 9 = .ok (.iload_n 1, 1) := by decide +kernel
theorem dX8_keep_10 : decode cX8_keep 10 = .ok (.iload_n 2, 1) := by decide +kernel
theorem dX8_keep_11 : decode cX8_keep 11 = .ok (.iastore, 1) := by decide +kernel
theorem dX8_keep_12 : decode cX8_keep 12 = .ok (.iconst 0, 1) := by decide +kernel
theorem dX8_keep_13 : decode cX8_keep 13 = .ok (.istore_n 3, 1) := by decide +kernel
theorem dX8_keep_14 : decode cX8_keep 14 = .ok (.iload_n 3, 1) := by decide +kernel
theorem dX8_keep_15 : decode cX8_keep 15 = .ok (.iload_n 2, 1) := by decide +kernel
theorem dX8_keep_16 : decode cX8_keep 16 = .ok (.if_icmp .ge 26, 3) := by decide +kernel
theorem dX8_keep_19 : decode cX8_keep 19 = .ok (.aload_n 0, 1) := by decide +kernel
theorem dX8_keep_20 : decode cX8_keep 20 = .ok (.getfield 16, 3) := by decide +kernel
theorem dX8_keep_23 : decode cX8_keep 23 = .ok (.bipush 60, 2) := by decide +kernel
theorem dX8_keep_25 : decode cX8_keep 25 = .ok (.iload_n 1, 1) := by decide +kernel
theorem dX8_keep_26 : decode cX8_keep 26 = .ok (.imul, 1) := by decide +kernel
theorem dX8_keep_27 : decode cX8_keep 27 = .ok (.iload_n 3, 1) := by decide +kernel
theorem dX8_keep_28 : decode cX8_keep 28 = .ok (.iadd, 1) := by decide +kernel
theorem dX8_keep_29 : decode cX8_keep 29 = .ok (.aload_n 0, 1) := by decide +kernel
theorem dX8_keep_30 : decode cX8_keep 30 = .ok (.getfield 7, 3) := by decide +kernel
theorem dX8_keep_33 : decode cX8_keep 33 = .ok (.iload_n 3, 1) := by decide +kernel
theorem dX8_keep_34 : decode cX8_keep 34 = .ok (.iaload, 1) := by decide +kernel
theorem dX8_keep_35 : decode cX8_keep 35 = .ok (.iastore, 1) := by decide +kernel
theorem dX8_keep_36 : decode cX8_keep 36 = .ok (.iinc 3 1, 3) := by decide +kernel
theorem dX8_keep_39 : decode cX8_keep 39 = .ok (.goto (-25), 3) := by decide +kernel
theorem dX8_keep_42 : decode cX8_keep 42 = .ok (.aload_n 0, 1) := by decide +kernel
theorem dX8_keep_43 : decode cX8_keep 43 = .ok (.iconst 0, 1) := by decide +kernel
theorem dX8_keep_44 : decode cX8_keep 44 = .ok (.putfield 103, 3) := by decide +kernel
theorem dX8_keep_47 : decode cX8_keep 47 = .ok (.iload_n 2, 1) := by decide +kernel
theorem dX8_keep_48 : decode cX8_keep 48 = .ok (.ireturn, 1) := by decide +kernel
theorem dX8_text_0 : decode cX8_text 0 = .ok (.aload_n 0, 1) := by decide +kernel
theorem dX8_text_1 : decode cX8_text 1 = .ok (.getfield 106, 3) := by decide +kernel
theorem dX8_text_4 : decode cX8_text 4 = .ok (.bipush 20, 2) := by decide +kernel
theorem dX8_text_6 : decode cX8_text 6 = .ok (.if_icmp .ne 6, 3) := by decide +kernel
theorem dX8_text_9 : decode cX8_text 9 = .ok (.bipush (-3), 2) := by decide +kernel
theorem dX8_text_11 : decode cX8_text 11 = .ok (.ireturn, 1) := by decide +kernel
theorem dX8_text_12 : decode cX8_text 12 = .ok (.aload_n 0, 1) := by decide +kernel
theorem dX8_text_13 : decode cX8_text 13 = .ok (.aload_n 0, 1) := by decide +kernel
theorem dX8_text_14 : decode cX8_text 14 = .ok (.getfield 106, 3) := by decide +kernel
theorem dX8_text_17 : decode cX8_text 17 = .ok (.invokevirtual 109, 3) := by decide +kernel
theorem dX8_text_20 : decode cX8_text 20 = .ok (.istore_n 1, 1) := by decide +kernel
theorem dX8_text_21 : decode cX8_text 21 = .ok (.aload_n 0, 1) := by decide +kernel
theorem dX8_text_22 : decode cX8_text 22 = .ok (.dup, 1) := by decide +kernel
theorem dX8_text_23 : decode cX8_text 23 = .ok (.getfield 106, 3) := by decide +kernel
theorem dX8_text_26 : decode cX8_text 26 = .ok (.iconst 1, 1) := by decide +kernel
theorem dX8_text_27 : decode cX8_text 27 = .ok (.iadd, 1) := by decide +kernel
theorem dX8_text_28 : decode cX8_text 28 = .ok (.putfield 106, 3) := by decide +kernel
theorem dX8_text_31 : decode cX8_text 31 = .ok (.aload_n 0, 1) := by decide +kernel
theorem dX8_text_32 : decode cX8_text 32 = .ok (.getfield 106, 3) := by decide +kernel
theorem dX8_text_35 : decode cX8_text 35 = .ok (.iconst 1, 1) := by decide +kernel
theorem dX8_text_36 : decode cX8_text 36 = .ok (.isub, 1) := by decide +kernel
theorem dX8_text_37 : decode cX8_text 37 = .ok (.ireturn, 1) := by decide +kernel
theorem dX8_isText_0 : decode cX8_isText 0 = .ok (.iload_n 1, 1) := by decide +kernel
theorem dX8_isText_1 : decode cX8_isText 1 = .ok (.iconst 0, 1) := by decide +kernel
theorem dX8_isText_2 : decode cX8_isText 2 = .ok (.aload_n 0, 1) := by decide +kernel
theorem dX8_isText_3 : decode cX8_isText 3 = .ok (.getfield 106, 3) := by decide +kernel
theorem dX8_isText_6 : decode cX8_isText 6 = .ok (.iconst 1, 1) := by decide +kernel
theorem dX8_isText_7 : decode cX8_isText 7 = .ok (.isub, 1) := by decide +kernel
theorem dX8_isText_8 : decode cX8_isText 8 = .ok (.invokestatic 99, 3) := by decide +kernel
theorem dX8_isText_11 : decode cX8_isText 11 = .ok (.ireturn, 1) := by decide +kernel
theorem dX8_isStep_0 : decode cX8_isStep 0 = .ok (.iload_n 1, 1) := by decide +kernel
theorem dX8_isStep_1 : decode cX8_isStep 1 = .ok (.iconst 0, 1) := by decide +kernel
theorem dX8_isStep_2 : decode cX8_isStep 2 = .ok (.aload_n 0, 1) := by decide +kernel
theorem dX8_isStep_3 : decode cX8_isStep 3 = .ok (.getfield 113, 3) := by decide +kernel
theorem dX8_isStep_6 : decode cX8_isStep 6 = .ok (.iconst 1, 1) := by decide +kernel
theorem dX8_isStep_7 : decode cX8_isStep 7 = .ok (.isub, 1) := by decide +kernel
theorem dX8_isStep_8 : decode cX8_isStep 8 = .ok (.invokestatic 99, 3) := by decide +kernel
theorem dX8_isStep_11 : decode cX8_isStep 11 = .ok (.ireturn, 1) := by decide +kernel
theorem dX8_isRoom_0 : decode cX8_isRoom 0 = .ok (.iload_n 0, 1) := by decide +kernel
theorem dX8_isRoom_1 : decode cX8_isRoom 1 = .ok (.iconst 0, 1) := by decide +kernel
theorem dX8_isRoom_2 : decode cX8_isRoom 2 = .ok (.bipush 7, 2) := by decide +kernel
theorem dX8_isRoom_4 : decode cX8_isRoom 4 = .ok (.invokestatic 99, 3) := by decide +kernel
theorem dX8_isRoom_7 : decode cX8_isRoom 7 = .ok (.ireturn, 1) := by decide +kernel
theorem dX8_isWord_0 : decode cX8_isWord 0 = .ok (.iload_n 0, 1) := by decide +kernel
theorem dX8_isWord_1 : decode cX8_isWord 1 = .ok (.iconst 0, 1) := by decide +kernel
theorem dX8_isWord_2 : decode cX8_isWord 2 = .ok (.bipush 7, 2) := by decide +kernel
theorem dX8_isWord_4 : decode cX8_isWord 4 = .ok (.invokestatic 99, 3) := by decide +kernel
theorem dX8_isWord_7 : decode cX8_isWord 7 = .ok (.ireturn, 1) := by decide +kernel
theorem dX8_write_0 : decode cX8_write 0 = .ok (.aload_n 0, 1) := by decide +kernel
theorem dX8_write_1 : decode cX8_write 1 = .ok (.iload_n 1, 1) := by decide +kernel
theorem dX8_write_2 : decode cX8_write 2 = .ok (.invokevirtual 116, 3) := by decide +kernel
theorem dX8_write_5 : decode cX8_write 5 = .ok (.ifCond .eq 11, 3) := by decide +kernel
theorem dX8_write_8 : decode cX8_write 8 = .ok (.aload_n 0, 1) := by decide +kernel
theorem dX8_write_9 : decode cX8_write 9 = .ok (.iload_n 1, 1) := by decide +kernel
theorem dX8_write_10 : decode cX8_write 10 = .ok (.invokevirtual 109, 3) := by decide +kernel
theorem dX8_write_13 : decode cX8_write 13 = .ok (.goto 4, 3) := by decide +kernel
theorem dX8_write_16 : decode cX8_write 16 = .ok (.iconst (-1), 1) := by decide +kernel
theorem dX8_write_17 : decode cX8_write 17 = .ok (.ireturn, 1) := by decide +kernel
theorem dX8_lack_0 : decode cX8_lack 0 = .ok (.aload_n 0, 1) := by decide +kernel
theorem dX8_lack_1 : decode cX8_lack 1 = .ok (.iload_n 1, 1) := by decide +kernel
theorem dX8_lack_2 : decode cX8_lack 2 = .ok (.invokevirtual 116, 3) := by decide +kernel
theorem dX8_lack_5 : decode cX8_lack 5 = .ok (.ifCond .eq 12, 3) := by decide +kernel
theorem dX8_lack_8 : decode cX8_lack 8 = .ok (.iload_n 2, 1) := by decide +kernel
theorem dX8_lack_9 : decode cX8_lack 9 = .ok (.iconst 0, 1) := by decide +kernel
theorem dX8_lack_10 : decode cX8_lack 10 = .ok (.iconst 1, 1) := by decide +kernel
theorem dX8_lack_11 : decode cX8_lack 11 = .ok (.invokestatic 99, 3) := by decide +kernel
theorem dX8_lack_14 : decode cX8_lack 14 = .ok (.ifCond .ne 5, 3) := by decide +kernel
theorem dX8_lack_17 : decode cX8_lack 17 = .ok (.iconst (-1), 1) := by decide +kernel
theorem dX8_lack_18 : decode cX8_lack 18 = .ok (.ireturn, 1) := by decide +kernel
theorem dX8_lack_19 : decode cX8_lack 19 = .ok (.aload_n 0, 1) := by decide +kernel
theorem dX8_lack_20 : decode cX8_lack 20 = .ok (.getfield 19, 3) := by decide +kernel
theorem dX8_lack_23 : decode cX8_lack 23 = .ok (.iload_n 1, 1) := by decide +kernel
theorem dX8_lack_24 : decode cX8_lack 24 = .ok (.baload, 1) := by decide +kernel
theorem dX8_lack_25 : decode cX8_lack 25 = .ok (.ifCond .eq 7, 3) := by decide +kernel
theorem dX8_lack_28 : decode cX8_lack 28 = .ok (.iconst 1, 1) := by decide +kernel
theorem dX8_lack_29 : decode cX8_lack 29 = .ok (.goto 4, 3) := by decide +kernel
theorem dX8_lack_32 : decode cX8_lack 32 = .ok (.iconst 0, 1) := by decide +kernel
theorem dX8_lack_33 : decode cX8_lack 33 = .ok (.istore_n 3, 1) := by decide +kernel
theorem dX8_lack_34 : decode cX8_lack 34 = .ok (.aload_n 0, 1) := by decide +kernel
theorem dX8_lack_35 : decode cX8_lack 35 = .ok (.getfield 19, 3) := by decide +kernel
theorem dX8_lack_38 : decode cX8_lack 38 = .ok (.iload_n 1, 1) := by decide +kernel
theorem dX8_lack_39 : decode cX8_lack 39 = .ok (.iload_n 2, 1) := by decide +kernel
theorem dX8_lack_40 : decode cX8_lack 40 = .ok (.iconst 1, 1) := by decide +kernel
theorem dX8_lack_41 : decode cX8_lack 41 = .ok (.if_icmp .ne 7, 3) := by decide +kernel
theorem dX8_lack_44 : decode cX8_lack 44 = .ok (.iconst 1, 1) := by decide +kernel
theorem dX8_lack_45 : decode cX8_lack 45 = .ok (.goto 4, 3) := by decide +kernel
theorem dX8_lack_48 : decode cX8_lack 48 = .ok (.iconst 0, 1) := by decide +kernel
theorem dX8_lack_49 : decode cX8_lack 49 = .ok (.bastore, 1) := by decide +kernel
theorem dX8_lack_50 : decode cX8_lack 50 = .ok (.iload_n 3, 1) := by decide +kernel
theorem dX8_lack_51 : decode cX8_lack 51 = .ok (.ireturn, 1) := by decide +kernel
theorem dX8_word_0 : decode cX8_word 0 = .ok (.iload_n 1, 1) := by decide +kernel
theorem dX8_word_1 : decode cX8_word 1 = .ok (.invokestatic 120, 3) := by decide +kernel
theorem dX8_word_4 : decode cX8_word 4 = .ok (.ifCond .eq 21, 3) := by decide +kernel
theorem dX8_word_7 : decode cX8_word 7 = .ok (.iload_n 2, 1) := by decide +kernel
theorem dX8_word_8 : decode cX8_word 8 = .ok (.invokestatic 123, 3) := by decide +kernel
theorem dX8_word_11 : decode cX8_word 11 = .ok (.ifCond .eq 14, 3) := by decide +kernel
theorem dX8_word_14 : decode cX8_word 14 = .ok (.iload_n 3, 1) := by decide +kernel
theorem dX8_word_15 : decode cX8_word 15 = .ok (.iconst 0, 1) := by decide +kernel
theorem dX8_word_16 : decode cX8_word 16 = .ok (.sipush 255, 3) := by decide +kernel
theorem dX8_word_19 : decode cX8_word 19 = .ok (.invokestatic 99, 3) := by decide +kernel
theorem dX8_word_22 : decode cX8_word 22 = .ok (.ifCond .ne 5, 3) := by decide +kernel
theorem dX8_word_25 : decode cX8_word 25 = .ok (.iconst (-1), 1) := by decide +kernel
theorem dX8_word_26 : decode cX8_word 26 = .ok (.ireturn, 1) := by decide +kernel
theorem dX8_word_27 : decode cX8_word 27 = .ok (.aload_n 0, 1) := by decide +kernel
theorem dX8_word_28 : decode cX8_word 28 = .ok (.getfield 23, 3) := by decide +kernel
theorem dX8_word_31 : decode cX8_word 31 = .ok (.bipush 8, 2) := by decide +kernel
theorem dX8_word_33 : decode cX8_word 33 = .ok (.iload_n 1, 1) := by decide +kernel
theorem dX8_word_34 : decode cX8_word 34 = .ok (.imul, 1) := by decide +kernel
theorem dX8_word_35 : decode cX8_word 35 = .ok (.iload_n 2, 1) := by decide +kernel
theorem dX8_word_36 : decode cX8_word 36 = .ok (.iadd, 1) := by decide +kernel
theorem dX8_word_37 : decode cX8_word 37 = .ok (.iaload, 1) := by decide +kernel
theorem dX8_word_38 : decode cX8_word 38 = .ok (.istore 4, 2) := by decide +kernel
theorem dX8_word_40 : decode cX8_word 40 = .ok (.aload_n 0, 1) := by decide +kernel
theorem dX8_word_41 : decode cX8_word 41 = .ok (.getfield 23, 3) := by decide +kernel
theorem dX8_word_44 : decode cX8_word 44 = .ok (.bipush 8, 2) := by decide +kernel
theorem dX8_word_46 : decode cX8_word 46 = .ok (.iload_n 1, 1) := by decide +kernel
theorem dX8_word_47 : decode cX8_word 47 = .ok (.imul, 1) := by decide +kernel
theorem dX8_word_48 : decode cX8_word 48 = .ok (.iload_n 2, 1) := by decide +kernel
theorem dX8_word_49 : decode cX8_word 49 = .ok (.iadd, 1) := by decide +kernel
theorem dX8_word_50 : decode cX8_word 50 = .ok (.iload_n 3, 1) := by decide +kernel
theorem dX8_word_51 : decode cX8_word 51 = .ok (.iastore, 1) := by decide +kernel
theorem dX8_word_52 : decode cX8_word 52 = .ok (.iload 4, 2) := by decide +kernel
theorem dX8_word_54 : decode cX8_word 54 = .ok (.ireturn, 1) := by decide +kernel
theorem dX8_copy_0 : decode cX8_copy 0 = .ok (.iload_n 1, 1) := by decide +kernel
theorem dX8_copy_1 : decode cX8_copy 1 = .ok (.invokestatic 120, 3) := by decide +kernel
theorem dX8_copy_4 : decode cX8_copy 4 = .ok (.ifCond .eq 10, 3) := by decide +kernel
theorem dX8_copy_7 : decode cX8_copy 7 = .ok (.iload_n 2, 1) := by decide +kernel
theorem dX8_copy_8 : decode cX8_copy 8 = .ok (.invokestatic 120, 3) := by decide +kernel
theorem dX8_copy_11 : decode cX8_copy 11 = .ok (.ifCond .ne 5, 3) := by decide +kernel
theorem dX8_copy_14 : decode cX8_copy 14 = .ok (.iconst (-1), 1) := by decide +kernel
theorem dX8_copy_15 : decode cX8_copy 15 = .ok (.ireturn, 1) := by decide +kernel
theorem dX8_copy_16 : decode cX8_copy 16 = .ok (.iconst 0, 1) := by decide +kernel
theorem dX8_copy_17 : decode cX8_copy 17 = .ok (.istore_n 3, 1) := by decide +kernel
theorem dX8_copy_18 : decode cX8_copy 18 = .ok (.iconst 0, 1) := by decide +kernel
theorem dX8_copy_19 : decode cX8_copy 19 = .ok (.istore 4, 2) := by decide +kernel
theorem dX8_copy_21 : decode cX8_copy 21 = .ok (.iload 4, 2) := by decide +kernel
theorem dX8_copy_23 : decode cX8_copy 23 = .ok (.bipush 8, 2) := by decide +kernel
theorem dX8_copy_25 : decode cX8_copy 25 = .ok (.if_icmp .ge 68, 3) := by decide +kernel
theorem dX8_copy_28 : decode cX8_copy 28 = .ok (.iload_n 3, 1) := by decide +kernel
theorem dX8_copy_29 : decode cX8_copy 29 = .ok (.aload_n 0, 1) := by decide +kernel
theorem dX8_copy_30 : decode cX8_copy 30 = .ok (.getfield 23, 3) := by decide +kernel
theorem dX8_copy_33 : decode cX8_copy 33 = .ok (.bipush 8, 2) := by decide +kernel
theorem dX8_copy_35 : decode cX8_copy 35 = .ok (.iload_n 1, 1) := by decide +kernel
theorem dX8_copy_36 : decode cX8_copy 36 = .ok (.imul, 1) := by decide +kernel
theorem dX8_copy_37 : decode cX8_copy 37 = .ok (.iload 4, 2) := by decide +kernel
theorem dX8_copy_39 : decode cX8_copy 39 = .ok (.iadd, 1) := by decide +kernel
theorem dX8_copy_40 : decode cX8_copy 40 = .ok (.iaload, 1) := by decide +kernel
theorem dX8_copy_41 : decode cX8_copy 41 = .ok (.aload_n 0, 1) := by decide +kernel
theorem dX8_copy_42 : decode cX8_copy 42 = .ok (.getfield 23, 3) := by decide +kernel
theorem dX8_copy_45 : decode cX8_copy 45 = .ok (.bipush 8, 2) := by decide +kernel
theorem dX8_copy_47 : decode cX8_copy 47 = .ok (.iload_n 2, 1) := by decide +kernel
theorem dX8_copy_48 : decode cX8_copy 48 = .ok (.imul, 1) := by decide +kernel
theorem dX8_copy_49 : decode cX8_copy 49 = .ok (.iload 4, 2) := by decide +kernel
theorem dX8_copy_51 : decode cX8_copy 51 = .ok (.iadd, 1) := by decide +kernel
theorem dX8_copy_52 : decode cX8_copy 52 = .ok (.iaload, 1) := by decide +kernel
theorem dX8_copy_53 : decode cX8_copy 53 = .ok (.if_icmp .ne 7, 3) := by decide +kernel
theorem dX8_copy_56 : decode cX8_copy 56 = .ok (.iconst 0, 1) := by decide +kernel
theorem dX8_copy_57 : decode cX8_copy 57 = .ok (.goto 4, 3) := by decide +kernel
theorem dX8_copy_60 : decode cX8_copy 60 = .ok (.iconst 1, 1) := by decide +kernel
theorem dX8_copy_61 : decode cX8_copy 61 = .ok (.iadd, 1) := by decide +kernel
theorem dX8_copy_62 : decode cX8_copy 62 = .ok (.istore_n 3, 1) := by decide +kernel
theorem dX8_copy_63 : decode cX8_copy 63 = .ok (.aload_n 0, 1) := by decide +kernel
theorem dX8_copy_64 : decode cX8_copy 64 = .ok (.getfield 23, 3) := by decide +kernel
theorem dX8_copy_67 : decode cX8_copy 67 = .ok (.bipush 8, 2) := by decide +kernel
theorem dX8_copy_69 : decode cX8_copy 69 = .ok (.iload_n 2, 1) := by decide +kernel
theorem dX8_copy_70 : decode cX8_copy 70 = .ok (.imul, 1) := by decide +kernel
theorem dX8_copy_71 : decode cX8_copy 71 = .ok (.iload 4, 2) := by decide +kernel
theorem dX8_copy_73 : decode cX8_copy 73 = .ok (.iadd, 1) := by decide +kernel
theorem dX8_copy_74 : decode cX8_copy 74 = .ok (.aload_n 0, 1) := by decide +kernel
theorem dX8_copy_75 : decode cX8_copy 75 = .ok (.getfield 23, 3) := by decide +kernel
theorem dX8_copy_78 : decode cX8_copy 78 = .ok (.bipush 8, 2) := by decide +kernel
theorem dX8_copy_80 : decode cX8_copy 80 = .ok (.iload_n 1, 1) := by decide +kernel
theorem dX8_copy_81 : decode cX8_copy 81 = .ok (.imul, 1) := by decide +kernel
theorem dX8_copy_82 : decode cX8_copy 82 = .ok (.iload 4, 2) := by decide +kernel
theorem dX8_copy_84 : decode cX8_copy 84 = .ok (.iadd, 1) := by decide +kernel
theorem dX8_copy_85 : decode cX8_copy 85 = .ok (.iaload, 1) := by decide +kernel
theorem dX8_copy_86 : decode cX8_copy 86 = .ok (.iastore, 1) := by decide +kernel
theorem dX8_copy_87 : decode cX8_copy 87 = .ok (.iinc 4 1, 3) := by decide +kernel
theorem dX8_copy_90 : decode cX8_copy 90 = .ok (.goto (-69), 3) := by decide +kernel
theorem dX8_copy_93 : decode cX8_copy 93 = .ok (.iload_n 3, 1) := by decide +kernel
theorem dX8_copy_94 : decode cX8_copy 94 = .ok (.ireturn, 1) := by decide +kernel
theorem dX8_step_0 : decode cX8_step 0 = .ok (.iload_n 1, 1) := by decide +kernel
theorem dX8_step_1 : decode cX8_step 1 = .ok (.iconst 0, 1) := by decide +kernel
theorem dX8_step_2 : decode cX8_step 2 = .ok (.bipush 7, 2) := by decide +kernel
theorem dX8_step_4 : decode cX8_step 4 = .ok (.invokestatic 99, 3) := by decide +kernel
theorem dX8_step_7 : decode cX8_step 7 = .ok (.ifCond .eq 24, 3) := by decide +kernel
theorem dX8_step_10 : decode cX8_step 10 = .ok (.iload_n 2, 1) := by decide +kernel
theorem dX8_step_11 : decode cX8_step 11 = .ok (.iconst 0, 1) := by decide +kernel
theorem dX8_step_12 : decode cX8_step 12 = .ok (.sipush 255, 3) := by decide +kernel
theorem dX8_step_15 : decode cX8_step 15 = .ok (.invokestatic 99, 3) := by decide +kernel
theorem dX8_step_18 : decode cX8_step 18 = .ok (.ifCond .eq 13, 3) := by decide +kernel
theorem dX8_step_21 : decode cX8_step 21 = .ok (.iload_n 3, 1) := by decide +kernel
theorem dX8_step_22 : decode cX8_step 22 = .ok (.iconst 0, 1) := by decide +kernel
theorem dX8_step_23 : decode cX8_step 23 = .ok (.bipush 7, 2) := by decide +kernel
theorem dX8_step_25 : decode cX8_step 25 = .ok (.invokestatic 99, 3) := by decide +kernel
theorem dX8_step_28 : decode cX8_step 28 = .ok (.ifCond .ne 5, 3) := by decide +kernel
theorem dX8_step_31 : decode cX8_step 31 = .ok (.iconst (-1), 1) := by decide +kernel
theorem dX8_step_32 : decode cX8_step 32 = .ok (.ireturn, 1) := by decide +kernel
theorem dX8_step_33 : decode cX8_step 33 = .ok (.aload_n 0, 1) := by decide +kernel
theorem dX8_step_34 : decode cX8_step 34 = .ok (.getfield 113, 3) := by decide +kernel
theorem dX8_step_37 : decode cX8_step 37 = .ok (.bipush 24, 2) := by decide +kernel
theorem dX8_step_39 : decode cX8_step 39 = .ok (.if_icmp .ne 6, 3) := by decide +kernel
theorem dX8_step_42 : decode cX8_step 42 = .ok (.bipush (-3), 2) := by decide +kernel
theorem dX8_step_44 : decode cX8_step 44 = .ok (.ireturn, 1) := by decide +kernel
theorem dX8_step_45 : decode cX8_step 45 = .ok (.aload_n 0, 1) := by decide +kernel
theorem dX8_step_46 : decode cX8_step 46 = .ok (.getfield 26, 3) := by decide +kernel
theorem dX8_step_49 : decode cX8_step 49 = .ok (.aload_n 0, 1) := by decide +kernel
theorem dX8_step_50 : decode cX8_step 50 = .ok (.getfield 113, 3) := by decide +kernel
theorem dX8_step_53 : decode cX8_step 53 = .ok (.iload_n 1, 1) := by decide +kernel
theorem dX8_step_54 : decode cX8_step 54 = .ok (.iastore, 1) := by decide +kernel
theorem dX8_step_55 : decode cX8_step 55 = .ok (.aload_n 0, 1) := by decide +kernel
theorem dX8_step_56 : decode cX8_step 56 = .ok (.getfield 29, 3) := by decide +kernel
theorem dX8_step_59 : decode cX8_step 59 = .ok (.aload_n 0, 1) := by decide +kernel
theorem dX8_step_60 : decode cX8_step 60 = .ok (.getfield 113, 3) := by decide +kernel
theorem dX8_step_63 : decode cX8_step 63 = .ok (.iload_n 2, 1) := by decide +kernel
theorem dX8_step_64 : decode cX8_step 64 = .ok (.iastore, 1) := by decide +kernel
theorem dX8_step_65 : decode cX8_step 65 = .ok (.aload_n 0, 1) := by decide +kernel
theorem dX8_step_66 : decode cX8_step 66 = .ok (.getfield 32, 3) := by decide +kernel
theorem dX8_step_69 : decode cX8_step 69 = .ok (.aload_n 0, 1) := by decide +kernel
theorem dX8_step_70 : decode cX8_step 70 = .ok (.getfield 113, 3) := by decide +kernel
theorem dX8_step_73 : decode cX8_step 73 = .ok (.iload_n 3, 1) := by decide +kernel
theorem dX8_step_74 : decode cX8_step 74 = .ok (.iastore, 1) := by decide +kernel
theorem dX8_step_75 : decode cX8_step 75 = .ok (.aload_n 0, 1) := by decide +kernel
theorem dX8_step_76 : decode cX8_step 76 = .ok (.getfield 35, 3) := by decide +kernel
theorem dX8_step_79 : decode cX8_step 79 = .ok (.aload_n 0, 1) := by decide +kernel
theorem dX8_step_80 : decode cX8_step 80 = .ok (.getfield 113, 3) := by decide +kernel
theorem dX8_step_83 : decode cX8_step 83 = .ok (.iconst 0, 1) := by decide +kernel
theorem dX8_step_84 : decode cX8_step 84 = .ok (.iastore, 1) := by decide +kernel
theorem dX8_step_85 : decode cX8_step 85 = .ok (.aload_n 0, 1) := by decide +kernel
theorem dX8_step_86 : decode cX8_step 86 = .ok (.dup, 1) := by decide +kernel
theorem dX8_step_87 : decode cX8_step 87 = .ok (.getfield 113, 3) := by decide +kernel
theorem dX8_step_90 : decode cX8_step 90 = .ok (.iconst 1, 1) := by decide +kernel
theorem dX8_step_91 : decode cX8_step 91 = .ok (.iadd, 1) := by decide +kernel
theorem dX8_step_92 : decode cX8_step 92 = .ok (.putfield 113, 3) := by decide +kernel
theorem dX8_step_95 : decode cX8_step 95 = .ok (.aload_n 0, 1) := by decide +kernel
theorem dX8_step_96 : decode cX8_step 96 = .ok (.getfield 113, 3) := by decide +kernel
theorem dX8_step_99 : decode cX8_step 99 = .ok (.iconst 1, 1) := by decide +kernel
theorem dX8_step_100 : decode cX8_step 100 = .ok (.isub, 1) := by decide +kernel
theorem dX8_step_101 : decode cX8_step 101 = .ok (.ireturn, 1) := by decide +kernel
theorem dX8_need_0 : decode cX8_need 0 = .ok (.aload_n 0, 1) := by decide +kernel
theorem dX8_need_1 : decode cX8_need 1 = .ok (.iload_n 1, 1) := by decide +kernel
theorem dX8_need_2 : decode cX8_need 2 = .ok (.invokevirtual 126, 3) := by decide +kernel
theorem dX8_need_5 : decode cX8_need 5 = .ok (.ifCond .eq 24, 3) := by decide +kernel
theorem dX8_need_8 : decode cX8_need 8 = .ok (.aload_n 0, 1) := by decide +kernel
theorem dX8_need_9 : decode cX8_need 9 = .ok (.iload_n 2, 1) := by decide +kernel
theorem dX8_need_10 : decode cX8_need 10 = .ok (.invokevirtual 116, 3) := by decide +kernel
theorem dX8_need_13 : decode cX8_need 13 = .ok (.ifCond .ne 18, 3) := by decide +kernel
theorem dX8_need_16 : decode cX8_need 16 = .ok (.iload_n 2, 1) := by decide +kernel
theorem dX8_need_17 : decode cX8_need 17 = .ok (.bipush 100, 2) := by decide +kernel
theorem dX8_need_19 : decode cX8_need 19 = .ok (.bipush 99, 2) := by decide +kernel
theorem dX8_need_21 : decode cX8_need 21 = .ok (.iload_n 1, 1) := by decide +kernel
theorem dX8_need_22 : decode cX8_need 22 = .ok (.iadd, 1) := by decide +kernel
theorem dX8_need_23 : decode cX8_need 23 = .ok (.invokestatic 99, 3) := by decide +kernel
theorem dX8_need_26 : decode cX8_need 26 = .ok (.ifCond .ne 5, 3) := by decide +kernel
theorem dX8_need_29 : decode cX8_need 29 = .ok (.iconst (-1), 1) := by decide +kernel
theorem dX8_need_30 : decode cX8_need 30 = .ok (.ireturn, 1) := by decide +kernel
theorem dX8_need_31 : decode cX8_need 31 = .ok (.iload_n 1, 1) := by decide +kernel
theorem dX8_need_32 : decode cX8_need 32 = .ok (.iconst 1, 1) := by decide +kernel
theorem dX8_need_33 : decode cX8_need 33 = .ok (.iadd, 1) := by decide +kernel
theorem dX8_need_34 : decode cX8_need 34 = .ok (.istore_n 3, 1) := by decide +kernel
theorem dX8_need_35 : decode cX8_need 35 = .ok (.iload_n 3, 1) := by decide +kernel
theorem dX8_need_36 : decode cX8_need 36 = .ok (.aload_n 0, 1) := by decide +kernel
theorem dX8_need_37 : decode cX8_need 37 = .ok (.getfield 113, 3) := by decide +kernel
theorem dX8_need_40 : decode cX8_need 40 = .ok (.if_icmp .ge 50, 3) := by decide +kernel
theorem dX8_need_43 : decode cX8_need 43 = .ok (.iconst 0, 1) := by decide +kernel
theorem dX8_need_44 : decode cX8_need 44 = .ok (.istore 4, 2) := by decide +kernel
theorem dX8_need_46 : decode cX8_need 46 = .ok (.iload 4, 2) := by decide +kernel
theorem dX8_need_48 : decode cX8_need 48 = .ok (.aload_n 0, 1) := by decide +kernel
theorem dX8_need_49 : decode cX8_need 49 = .ok (.getfield 35, 3) := by decide +kernel
theorem dX8_need_52 : decode cX8_need 52 = .ok (.iload_n 3, 1) := by decide +kernel
theorem dX8_need_53 : decode cX8_need 53 = .ok (.iaload, 1) := by decide +kernel
theorem dX8_need_54 : decode cX8_need 54 = .ok (.if_icmp .ge 30, 3) := by decide +kernel
theorem dX8_need_57 : decode cX8_need 57 = .ok (.aload_n 0, 1) := by decide +kernel
theorem dX8_need_58 : decode cX8_need 58 = .ok (.getfield 38, 3) := by decide +kernel
theorem dX8_need_61 : decode cX8_need 61 = .ok (.iconst 4, 1) := by decide +kernel
theorem dX8_need_62 : decode cX8_need 62 = .ok (.iload_n 3, 1) := by decide +kernel
theorem dX8_need_63 : decode cX8_need 63 = .ok (.imul, 1) := by decide +kernel
theorem dX8_need_64 : decode cX8_need 64 = .ok (.iload 4, 2) := by decide +kernel
theorem dX8_need_66 : decode cX8_need 66 = .ok (.iadd, 1) := by decide +kernel
theorem dX8_need_67 : decode cX8_need 67 = .ok (.iaload, 1) := by decide +kernel
theorem dX8_need_68 : decode cX8_need 68 = .ok (.bipush 100, 2) := by decide +kernel
theorem dX8_need_70 : decode cX8_need 70 = .ok (.iload_n 1, 1) := by decide +kernel
theorem dX8_need_71 : decode cX8_need 71 = .ok (.iadd, 1) := by decide +kernel
theorem dX8_need_72 : decode cX8_need 72 = .ok (.if_icmp .ne 6, 3) := by decide +kernel
theorem dX8_need_75 : decode cX8_need 75 = .ok (.bipush (-2), 2) := by decide +kernel
theorem dX8_need_77 : decode cX8_need 77 = .ok (.ireturn, 1) := by decide +kernel
theorem dX8_need_78 : decode cX8_need 78 = .ok (.iinc 4 1, 3) := by decide +kernel
theorem dX8_need_81 : decode cX8_need 81 = .ok (.goto (-35), 3) := by decide +kernel
theorem dX8_need_84 : decode cX8_need 84 = .ok (.iinc 3 1, 3) := by decide +kernel
theorem dX8_need_87 : decode cX8_need 87 = .ok (.goto (-52), 3) := by decide +kernel
theorem dX8_need_90 : decode cX8_need 90 = .ok (.aload_n 0, 1) := by decide +kernel
theorem dX8_need_91 : decode cX8_need 91 = .ok (.getfield 35, 3) := by decide +kernel
theorem dX8_need_94 : decode cX8_need 94 = .ok (.iload_n 1, 1) := by decide +kernel
theorem dX8_need_95 : decode cX8_need 95 = .ok (.iaload, 1) := by decide +kernel
theorem dX8_need_96 : decode cX8_need 96 = .ok (.iconst 4, 1) := by decide +kernel
theorem dX8_need_97 : decode cX8_need 97 = .ok (.if_icmp .ne 6, 3) := by decide +kernel
theorem dX8_need_100 : decode cX8_need 100 = .ok (.bipush (-3), 2) := by decide +kernel
theorem dX8_need_102 : decode cX8_need 102 = .ok (.ireturn, 1) := by decide +kernel
theorem dX8_need_103 : decode cX8_need 103 = .ok (.aload_n 0, 1) := by decide +kernel
theorem dX8_need_104 : decode cX8_need 104 = .ok (.getfield 38, 3) := by decide +kernel
theorem dX8_need_107 : decode cX8_need 107 = .ok (.iconst 4, 1) := by decide +kernel
theorem dX8_need_108 : decode cX8_need 108 = .ok (.iload_n 1, 1) := by decide +kernel
theorem dX8_need_109 : decode cX8_need 109 = .ok (.imul, 1) := by decide +kernel
theorem dX8_need_110 : decode cX8_need 110 = .ok (.aload_n 0, 1) := by decide +kernel
theorem dX8_need_111 : decode cX8_need 111 = .ok (.getfield 35, 3) := by decide +kernel
theorem dX8_need_114 : decode cX8_need 114 = .ok (.iload_n 1, 1) := by decide +kernel
theorem dX8_need_115 : decode cX8_need 115 = .ok (.iaload, 1) := by decide +kernel
theorem dX8_need_116 : decode cX8_need 116 = .ok (.iadd, 1) := by decide +kernel
theorem dX8_need_117 : decode cX8_need 117 = .ok (.iload_n 2, 1) := by decide +kernel
theorem dX8_need_118 : decode cX8_need 118 = .ok (.iastore, 1) := by decide +kernel
theorem dX8_need_119 : decode cX8_need 119 = .ok (.aload_n 0, 1) := by decide +kernel
theorem dX8_need_120 : decode cX8_need 120 = .ok (.getfield 35, 3) := by decide +kernel
theorem dX8_need_123 : decode cX8_need 123 = .ok (.iload_n 1, 1) := by decide +kernel
theorem dX8_need_124 : decode cX8_need 124 = .ok (.dup2, 1) := by decide +kernel
theorem dX8_need_125 : decode cX8_need 125 = .ok (.iaload, 1) := by decide +kernel
theorem dX8_need_126 : decode cX8_need 126 = .ok (.iconst 1, 1) := by decide +kernel
theorem dX8_need_127 : decode cX8_need 127 = .ok (.iadd, 1) := by decide +kernel
theorem dX8_need_128 : decode cX8_need 128 = .ok (.iastore, 1) := by decide +kernel
theorem dX8_need_129 : decode cX8_need 129 = .ok (.aload_n 0, 1) := by decide +kernel
theorem dX8_need_130 : decode cX8_need 130 = .ok (.getfield 35, 3) := by decide +kernel
theorem dX8_need_133 : decode cX8_need 133 = .ok (.iload_n 1, 1) := by decide +kernel
theorem dX8_need_134 : decode cX8_need 134 = .ok (.iaload, 1) := by decide +kernel
theorem dX8_need_135 : decode cX8_need 135 = .ok (.ireturn, 1) := by decide +kernel
theorem dX8_take_0 : decode cX8_take 0 = .ok (.iconst 0, 1) := by decide +kernel
theorem dX8_take_1 : decode cX8_take 1 = .ok (.istore_n 2, 1) := by decide +kernel
theorem dX8_take_2 : decode cX8_take 2 = .ok (.iload_n 2, 1) := by decide +kernel
theorem dX8_take_3 : decode cX8_take 3 = .ok (.bipush 8, 2) := by decide +kernel
theorem dX8_take_5 : decode cX8_take 5 = .ok (.if_icmp .ge 26, 3) := by decide +kernel
theorem dX8_take_8 : decode cX8_take 8 = .ok (.aload_n 0, 1) := by decide +kernel
theorem dX8_take_9 : decode cX8_take 9 = .ok (.getfield 41, 3) := by decide +kernel
theorem dX8_take_12 : decode cX8_take 12 = .ok (.iload_n 2, 1) := by decide +kernel
theorem dX8_take_13 : decode cX8_take 13 = .ok (.aload_n 0, 1) := by decide +kernel
theorem dX8_take_14 : decode cX8_take 14 = .ok (.getfield 23, 3) := by decide +kernel
theorem dX8_take_17 : decode cX8_take 17 = .ok (.bipush 8, 2) := by decide +kernel
theorem dX8_take_19 : decode cX8_take 19 = .ok (.iload_n 1, 1) := by decide +kernel
theorem dX8_take_20 : decode cX8_take 20 = .ok (.imul, 1) := by decide +kernel
theorem dX8_take_21 : decode cX8_take 21 = .ok (.iload_n 2, 1) := by decide +kernel
theorem dX8_take_22 : decode cX8_take 22 = .ok (.iadd, 1) := by decide +kernel
theorem dX8_take_23 : decode cX8_take 23 = .ok (.iaload, 1) := by decide +kernel
theorem dX8_take_24 : decode cX8_take 24 = .ok (.iastore, 1) := by decide +kernel
theorem dX8_take_25 : decode cX8_take 25 = .ok (.iinc 2 1, 3) := by decide +kernel
theorem dX8_take_28 : decode cX8_take 28 = .ok (.goto (-26), 3) := by decide +kernel
theorem dX8_take_31 : decode cX8_take 31 = .ok (.return_, 1) := by decide +kernel
theorem dX8_sizeOf_0 : decode cX8_sizeOf 0 = .ok (.iload_n 2, 1) := by decide +kernel
theorem dX8_sizeOf_1 : decode cX8_sizeOf 1 = .ok (.bipush 100, 2) := by decide +kernel
theorem dX8_sizeOf_3 : decode cX8_sizeOf 3 = .ok (.if_icmp .lt 20, 3) := by decide +kernel
theorem dX8_sizeOf_6 : decode cX8_sizeOf 6 = .ok (.aload_n 0, 1) := by decide +kernel
theorem dX8_sizeOf_7 : decode cX8_sizeOf 7 = .ok (.getfield 44, 3) := by decide +kernel
theorem dX8_sizeOf_10 : decode cX8_sizeOf 10 = .ok (.bipush 24, 2) := by decide +kernel
theorem dX8_sizeOf_12 : decode cX8_sizeOf 12 = .ok (.iload_n 1, 1) := by decide +kernel
theorem dX8_sizeOf_13 : decode cX8_sizeOf 13 = .ok (.imul, 1) := by decide +kernel
theorem dX8_sizeOf_14 : decode cX8_sizeOf 14 = .ok (.iload_n 2, 1) := by decide +kernel
theorem dX8_sizeOf_15 : decode cX8_sizeOf 15 = .ok (.iadd, 1) := by decide +kernel
theorem dX8_sizeOf_16 : decode cX8_sizeOf 16 = .ok (.bipush 100, 2) := by decide +kernel
theorem dX8_sizeOf_18 : decode cX8_sizeOf 18 = .ok (.isub, 1) := by decide +kernel
theorem dX8_sizeOf_19 : decode cX8_sizeOf 19 = .ok (.iaload, 1) := by decide +kernel
theorem dX8_sizeOf_20 : decode cX8_sizeOf 20 = .ok (.goto 22, 3) := by decide +kernel
theorem dX8_sizeOf_23 : decode cX8_sizeOf 23 = .ok (.aload_n 0, 1) := by decide +kernel
theorem dX8_sizeOf_24 : decode cX8_sizeOf 24 = .ok (.getfield 19, 3) := by decide +kernel
theorem dX8_sizeOf_27 : decode cX8_sizeOf 27 = .ok (.iload_n 2, 1) := by decide +kernel
theorem dX8_sizeOf_28 : decode cX8_sizeOf 28 = .ok (.baload, 1) := by decide +kernel
theorem dX8_sizeOf_29 : decode cX8_sizeOf 29 = .ok (.ifCond .eq 7, 3) := by decide +kernel
theorem dX8_sizeOf_32 : decode cX8_sizeOf 32 = .ok (.iconst (-1), 1) := by decide +kernel
theorem dX8_sizeOf_33 : decode cX8_sizeOf 33 = .ok (.goto 9, 3) := by decide +kernel
theorem dX8_sizeOf_36 : decode cX8_sizeOf 36 = .ok (.aload_n 0, 1) := by decide +kernel
theorem dX8_sizeOf_37 : decode cX8_sizeOf 37 = .ok (.getfield 13, 3) := by decide +kernel
theorem dX8_sizeOf_40 : decode cX8_sizeOf 40 = .ok (.iload_n 2, 1) := by decide +kernel
theorem dX8_sizeOf_41 : decode cX8_sizeOf 41 = .ok (.iaload, 1) := by decide +kernel
theorem dX8_sizeOf_42 : decode cX8_sizeOf 42 = .ok (.ireturn, 1) := by decide +kernel
theorem dX8_byteOf_0 : decode cX8_byteOf 0 = .ok (.iload_n 2, 1) := by decide +kernel
theorem dX8_byteOf_1 : decode cX8_byteOf 1 = .ok (.bipush 100, 2) := by decide +kernel
theorem dX8_byteOf_3 : decode cX8_byteOf 3 = .ok (.if_icmp .lt 26, 3) := by decide +kernel
theorem dX8_byteOf_6 : decode cX8_byteOf 6 = .ok (.aload_n 0, 1) := by decide +kernel
theorem dX8_byteOf_7 : decode cX8_byteOf 7 = .ok (.getfield 47, 3) := by decide +kernel
theorem dX8_byteOf_10 : decode cX8_byteOf 10 = .ok (.sipush 200, 3) := by decide +kernel
theorem dX8_byteOf_13 : decode cX8_byteOf 13 = .ok (.bipush 24, 2) := by decide +kernel
theorem dX8_byteOf_15 : decode cX8_byteOf 15 = .ok (.iload_n 1, 1) := by decide +kernel
theorem dX8_byteOf_16 : decode cX8_byteOf 16 = .ok (.imul, 1) := by decide +kernel
theorem dX8_byteOf_17 : decode cX8_byteOf 17 = .ok (.iload_n 2, 1) := by decide +kernel
theorem dX8_byteOf_18 : decode cX8_byteOf 18 = .ok (.iadd, 1) := by decide +kernel
theorem dX8_byteOf_19 : decode cX8_byteOf 19 = .ok (.bipush 100, 2) := by decide +kernel
theorem dX8_byteOf_21 : decode cX8_byteOf 21 = .ok (.isub, 1) := by decide +kernel
theorem dX8_byteOf_22 : decode cX8_byteOf 22 = .ok (.imul, 1) := by decide +kernel
theorem dX8_byteOf_23 : decode cX8_byteOf 23 = .ok (.iload_n 3, 1) := by decide +kernel
theorem dX8_byteOf_24 : decode cX8_byteOf 24 = .ok (.iadd, 1) := by decide +kernel
theorem dX8_byteOf_25 : decode cX8_byteOf 25 = .ok (.iaload, 1) := by decide +kernel
theorem dX8_byteOf_26 : decode cX8_byteOf 26 = .ok (.goto 14, 3) := by decide +kernel
theorem dX8_byteOf_29 : decode cX8_byteOf 29 = .ok (.aload_n 0, 1) := by decide +kernel
theorem dX8_byteOf_30 : decode cX8_byteOf 30 = .ok (.getfield 16, 3) := by decide +kernel
theorem dX8_byteOf_33 : decode cX8_byteOf 33 = .ok (.bipush 60, 2) := by decide +kernel
theorem dX8_byteOf_35 : decode cX8_byteOf 35 = .ok (.iload_n 2, 1) := by decide +kernel
theorem dX8_byteOf_36 : decode cX8_byteOf 36 = .ok (.imul, 1) := by decide +kernel
theorem dX8_byteOf_37 : decode cX8_byteOf 37 = .ok (.iload_n 3, 1) := by decide +kernel
theorem dX8_byteOf_38 : decode cX8_byteOf 38 = .ok (.iadd, 1) := by decide +kernel
theorem dX8_byteOf_39 : decode cX8_byteOf 39 = .ok (.iaload, 1) := by decide +kernel
theorem dX8_byteOf_40 : decode cX8_byteOf 40 = .ok (.ireturn, 1) := by decide +kernel
theorem dX8_add_0 : decode cX8_add 0 = .ok (.aload_n 0, 1) := by decide +kernel
theorem dX8_add_1 : decode cX8_add 1 = .ok (.iload_n 1, 1) := by decide +kernel
theorem dX8_add_2 : decode cX8_add 2 = .ok (.iload_n 2, 1) := by decide +kernel
theorem dX8_add_3 : decode cX8_add 3 = .ok (.invokevirtual 129, 3) := by decide +kernel
theorem dX8_add_6 : decode cX8_add 6 = .ok (.istore_n 3, 1) := by decide +kernel
theorem dX8_add_7 : decode cX8_add 7 = .ok (.iconst 0, 1) := by decide +kernel
theorem dX8_add_8 : decode cX8_add 8 = .ok (.istore 4, 2) := by decide +kernel
theorem dX8_add_10 : decode cX8_add 10 = .ok (.iload 4, 2) := by decide +kernel
theorem dX8_add_12 : decode cX8_add 12 = .ok (.iload_n 3, 1) := by decide +kernel
theorem dX8_add_13 : decode cX8_add 13 = .ok (.if_icmp .ge 36, 3) := by decide +kernel
theorem dX8_add_16 : decode cX8_add 16 = .ok (.aload_n 0, 1) := by decide +kernel
theorem dX8_add_17 : decode cX8_add 17 = .ok (.getfield 50, 3) := by decide +kernel
theorem dX8_add_20 : decode cX8_add 20 = .ok (.aload_n 0, 1) := by decide +kernel
theorem dX8_add_21 : decode cX8_add 21 = .ok (.getfield 133, 3) := by decide +kernel
theorem dX8_add_24 : decode cX8_add 24 = .ok (.aload_n 0, 1) := by decide +kernel
theorem dX8_add_25 : decode cX8_add 25 = .ok (.iload_n 1, 1) := by decide +kernel
theorem dX8_add_26 : decode cX8_add 26 = .ok (.iload_n 2, 1) := by decide +kernel
theorem dX8_add_27 : decode cX8_add 27 = .ok (.iload 4, 2) := by decide +kernel
theorem dX8_add_29 : decode cX8_add 29 = .ok (.invokevirtual 136, 3) := by decide +kernel
theorem dX8_add_32 : decode cX8_add 32 = .ok (.iastore, 1) := by decide +kernel
theorem dX8_add_33 : decode cX8_add 33 = .ok (.aload_n 0, 1) := by decide +kernel
theorem dX8_add_34 : decode cX8_add 34 = .ok (.dup, 1) := by decide +kernel
theorem dX8_add_35 : decode cX8_add 35 = .ok (.getfield 133, 3) := by decide +kernel
theorem dX8_add_38 : decode cX8_add 38 = .ok (.iconst 1, 1) := by decide +kernel
theorem dX8_add_39 : decode cX8_add 39 = .ok (.iadd, 1) := by decide +kernel
theorem dX8_add_40 : decode cX8_add 40 = .ok (.putfield 133, 3) := by decide +kernel
theorem dX8_add_43 : decode cX8_add 43 = .ok (.iinc 4 1, 3) := by decide +kernel
theorem dX8_add_46 : decode cX8_add 46 = .ok (.goto (-36), 3) := by decide +kernel
theorem dX8_add_49 : decode cX8_add 49 = .ok (.return_, 1) := by decide +kernel
theorem dX8_isReady_0 : decode cX8_isReady 0 = .ok (.aload_n 0, 1) := by decide +kernel
theorem dX8_isReady_1 : decode cX8_isReady 1 = .ok (.getfield 35, 3) := by decide +kernel
theorem dX8_isReady_4 : decode cX8_isReady 4 = .ok (.iload_n 2, 1) := by decide +kernel
theorem dX8_isReady_5 : decode cX8_isReady 5 = .ok (.iaload, 1) := by decide +kernel
theorem dX8_isReady_6 : decode cX8_isReady 6 = .ok (.ifCond .le 7, 3) := by decide +kernel
theorem dX8_isReady_9 : decode cX8_isReady 9 = .ok (.iconst 1, 1) := by decide +kernel
theorem dX8_isReady_10 : decode cX8_isReady 10 = .ok (.goto 4, 3) := by decide +kernel
theorem dX8_isReady_13 : decode cX8_isReady 13 = .ok (.iconst 0, 1) := by decide +kernel
theorem dX8_isReady_14 : decode cX8_isReady 14 = .ok (.istore_n 3, 1) := by decide +kernel
theorem dX8_isReady_15 : decode cX8_isReady 15 = .ok (.iconst 0, 1) := by decide +kernel
theorem dX8_isReady_16 : decode cX8_isReady 16 = .ok (.istore 4, 2) := by decide +kernel
theorem dX8_isReady_18 : decode cX8_isReady 18 = .ok (.iload 4, 2) := by decide +kernel
theorem dX8_isReady_20 : decode cX8_isReady 20 = .ok (.aload_n 0, 1) := by decide +kernel
theorem dX8_isReady_21 : decode cX8_isReady 21 = .ok (.getfield 35, 3) := by decide +kernel
theorem dX8_isReady_24 : decode cX8_isReady 24 = .ok (.iload_n 2, 1) := by decide +kernel
theorem dX8_isReady_25 : decode cX8_isReady 25 = .ok (.iaload, 1) := by decide +kernel
theorem dX8_isReady_26 : decode cX8_isReady 26 = .ok (.if_icmp .ge 39, 3) := by decide +kernel
theorem dX8_isReady_29 : decode cX8_isReady 29 = .ok (.iload_n 3, 1) := by decide +kernel
theorem dX8_isReady_30 : decode cX8_isReady 30 = .ok (.ifCond .eq 27, 3) := by decide +kernel
theorem dX8_isReady_33 : decode cX8_isReady 33 = .ok (.aload_n 0, 1) := by decide +kernel
theorem dX8_isReady_34 : decode cX8_isReady 34 = .ok (.iload_n 1, 1) := by decide +kernel
theorem dX8_isReady_35 : decode cX8_isReady 35 = .ok (.aload_n 0, 1) := by decide +kernel
theorem dX8_isReady_36 : decode cX8_isReady 36 = .ok (.getfield 38, 3) := by decide +kernel
theorem dX8_isReady_39 : decode cX8_isReady 39 = .ok (.iconst 4, 1) := by decide +kernel
theorem dX8_isReady_40 : decode cX8_isReady 40 = .ok (.iload_n 2, 1) := by decide +kernel
theorem dX8_isReady_41 : decode cX8_isReady 41 = .ok (.imul, 1) := by decide +kernel
theorem dX8_isReady_42 : decode cX8_isReady 42 = .ok (.iload 4, 2) := by decide +kernel
theorem dX8_isReady_44 : decode cX8_isReady 44 = .ok (.iadd, 1) := by decide +kernel
theorem dX8_isReady_45 : decode cX8_isReady 45 = .ok (.iaload, 1) := by decide +kernel
theorem dX8_isReady_46 : decode cX8_isReady 46 = .ok (.invokevirtual 129, 3) := by decide +kernel
theorem dX8_isReady_49 : decode cX8_isReady 49 = .ok (.iconst (-1), 1) := by decide +kernel
theorem dX8_isReady_50 : decode cX8_isReady 50 = .ok (.if_icmp .eq 7, 3) := by decide +kernel
theorem dX8_isReady_53 : decode cX8_isReady 53 = .ok (.iconst 1, 1) := by decide +kernel
theorem dX8_isReady_54 : decode cX8_isReady 54 = .ok (.goto 4, 3) := by decide +kernel
theorem dX8_isReady_57 : decode cX8_isReady 57 = .ok (.iconst 0, 1) := by decide +kernel
theorem dX8_isReady_58 : decode cX8_isReady 58 = .ok (.istore_n 3, 1) := by decide +kernel
theorem dX8_isReady_59 : decode cX8_isReady 59 = .ok (.iinc 4 1, 3) := by decide +kernel
theorem dX8_isReady_62 : decode cX8_isReady 62 = .ok (.goto (-44), 3) := by decide +kernel
theorem dX8_isReady_65 : decode cX8_isReady 65 = .ok (.iload_n 3, 1) := by decide +kernel
theorem dX8_isReady_66 : decode cX8_isReady 66 = .ok (.ireturn, 1) := by decide +kernel
theorem dX8_join_0 : decode cX8_join 0 = .ok (.aload_n 0, 1) := by decide +kernel
theorem dX8_join_1 : decode cX8_join 1 = .ok (.iconst 0, 1) := by decide +kernel
theorem dX8_join_2 : decode cX8_join 2 = .ok (.putfield 133, 3) := by decide +kernel
theorem dX8_join_5 : decode cX8_join 5 = .ok (.aload_n 0, 1) := by decide +kernel
theorem dX8_join_6 : decode cX8_join 6 = .ok (.getfield 35, 3) := by decide +kernel
theorem dX8_join_9 : decode cX8_join 9 = .ok (.iload_n 2, 1) := by decide +kernel
theorem dX8_join_10 : decode cX8_join 10 = .ok (.iaload, 1) := by decide +kernel
theorem dX8_join_11 : decode cX8_join 11 = .ok (.istore_n 3, 1) := by decide +kernel
theorem dX8_join_12 : decode cX8_join 12 = .ok (.aload_n 0, 1) := by decide +kernel
theorem dX8_join_13 : decode cX8_join 13 = .ok (.getfield 26, 3) := by decide +kernel
theorem dX8_join_16 : decode cX8_join 16 = .ok (.iload_n 2, 1) := by decide +kernel
theorem dX8_join_17 : decode cX8_join 17 = .ok (.iaload, 1) := by decide +kernel
theorem dX8_join_18 : decode cX8_join 18 = .ok (.iconst 5, 1) := by decide +kernel
theorem dX8_join_19 : decode cX8_join 19 = .ok (.if_icmp .ne 45, 3) := by decide +kernel
theorem dX8_join_22 : decode cX8_join 22 = .ok (.aload_n 0, 1) := by decide +kernel
theorem dX8_join_23 : decode cX8_join 23 = .ok (.iload_n 1, 1) := by decide +kernel
theorem dX8_join_24 : decode cX8_join 24 = .ok (.aload_n 0, 1) := by decide +kernel
theorem dX8_join_25 : decode cX8_join 25 = .ok (.getfield 38, 3) := by decide +kernel
theorem dX8_join_28 : decode cX8_join 28 = .ok (.iconst 4, 1) := by decide +kernel
theorem dX8_join_29 : decode cX8_join 29 = .ok (.iload_n 2, 1) := by decide +kernel
theorem dX8_join_30 : decode cX8_join 30 = .ok (.imul, 1) := by decide +kernel
theorem dX8_join_31 : decode cX8_join 31 = .ok (.aload_n 0, 1) := by decide +kernel
theorem dX8_join_32 : decode cX8_join 32 = .ok (.getfield 41, 3) := by decide +kernel
theorem dX8_join_35 : decode cX8_join 35 = .ok (.aload_n 0, 1) := by decide +kernel
theorem dX8_join_36 : decode cX8_join 36 = .ok (.getfield 32, 3) := by decide +kernel
theorem dX8_join_39 : decode cX8_join 39 = .ok (.iload_n 2, 1) := by decide +kernel
theorem dX8_join_40 : decode cX8_join 40 = .ok (.iaload, 1) := by decide +kernel
theorem dX8_join_41 : decode cX8_join 41 = .ok (.iaload, 1) := by decide +kernel
theorem dX8_join_42 : decode cX8_join 42 = .ok (.aload_n 0, 1) := by decide +kernel
theorem dX8_join_43 : decode cX8_join 43 = .ok (.getfield 29, 3) := by decide +kernel
theorem dX8_join_46 : decode cX8_join 46 = .ok (.iload_n 2, 1) := by decide +kernel
theorem dX8_join_47 : decode cX8_join 47 = .ok (.iaload, 1) := by decide +kernel
theorem dX8_join_48 : decode cX8_join 48 = .ok (.if_icmp .ge 7, 3) := by decide +kernel
theorem dX8_join_51 : decode cX8_join 51 = .ok (.iconst 0, 1) := by decide +kernel
theorem dX8_join_52 : decode cX8_join 52 = .ok (.goto 6, 3) := by decide +kernel
theorem dX8_join_55 : decode cX8_join 55 = .ok (.iload_n 3, 1) := by decide +kernel
theorem dX8_join_56 : decode cX8_join 56 = .ok (.iconst 1, 1) := by decide +kernel
theorem dX8_join_57 : decode cX8_join 57 = .ok (.isub, 1) := by decide +kernel
theorem dX8_join_58 : decode cX8_join 58 = .ok (.iadd, 1) := by decide +kernel
theorem dX8_join_59 : decode cX8_join 59 = .ok (.iaload, 1) := by decide +kernel
theorem dX8_join_60 : decode cX8_join 60 = .ok (.invokevirtual 140, 3) := by decide +kernel
theorem dX8_join_63 : decode cX8_join 63 = .ok (.return_, 1) := by decide +kernel
theorem dX8_join_64 : decode cX8_join 64 = .ok (.aload_n 0, 1) := by decide +kernel
theorem dX8_join_65 : decode cX8_join 65 = .ok (.getfield 26, 3) := by decide +kernel
theorem dX8_join_68 : decode cX8_join 68 = .ok (.iload_n 2, 1) := by decide +kernel
theorem dX8_join_69 : decode cX8_join 69 = .ok (.iaload, 1) := by decide +kernel
theorem dX8_join_70 : decode cX8_join 70 = .ok (.iconst 2, 1) := by decide +kernel
theorem dX8_join_71 : decode cX8_join 71 = .ok (.if_icmp .ne 24, 3) := by decide +kernel
theorem dX8_join_74 : decode cX8_join 74 = .ok (.aload_n 0, 1) := by decide +kernel
theorem dX8_join_75 : decode cX8_join 75 = .ok (.getfield 41, 3) := by decide +kernel
theorem dX8_join_78 : decode cX8_join 78 = .ok (.aload_n 0, 1) := by decide +kernel
theorem dX8_join_79 : decode cX8_join 79 = .ok (.getfield 32, 3) := by decide +kernel
theorem dX8_join_82 : decode cX8_join 82 = .ok (.iload_n 2, 1) := by decide +kernel
theorem dX8_join_83 : decode cX8_join 83 = .ok (.iaload, 1) := by decide +kernel
theorem dX8_join_84 : decode cX8_join 84 = .ok (.iaload, 1) := by decide +kernel
theorem dX8_join_85 : decode cX8_join 85 = .ok (.iconst 2, 1) := by decide +kernel
theorem dX8_join_86 : decode cX8_join 86 = .ok (.irem, 1) := by decide +kernel
theorem dX8_join_87 : decode cX8_join 87 = .ok (.iconst 1, 1) := by decide +kernel
theorem dX8_join_88 : decode cX8_join 88 = .ok (.if_icmp .ne 7, 3) := by decide +kernel
theorem dX8_join_91 : decode cX8_join 91 = .ok (.iconst 1, 1) := by decide +kernel
theorem dX8_join_92 : decode cX8_join 92 = .ok (.goto 4, 3) := by decide +kernel
theorem dX8_join_95 : decode cX8_join 95 = .ok (.iconst 0, 1) := by decide +kernel
theorem dX8_join_96 : decode cX8_join 96 = .ok (.istore 4, 2) := by decide +kernel
theorem dX8_join_98 : decode cX8_join 98 = .ok (.iconst 0, 1) := by decide +kernel
theorem dX8_join_99 : decode cX8_join 99 = .ok (.istore 5, 2) := by decide +kernel
theorem dX8_join_101 : decode cX8_join 101 = .ok (.iload 5, 2) := by decide +kernel
theorem dX8_join_103 : decode cX8_join 103 = .ok (.iload_n 3, 1) := by decide +kernel
theorem dX8_join_104 : decode cX8_join 104 = .ok (.if_icmp .ge 39, 3) := by decide +kernel
theorem dX8_join_107 : decode cX8_join 107 = .ok (.aload_n 0, 1) := by decide +kernel
theorem dX8_join_108 : decode cX8_join 108 = .ok (.iload_n 1, 1) := by decide +kernel
theorem dX8_join_109 : decode cX8_join 109 = .ok (.aload_n 0, 1) := by decide +kernel
theorem dX8_join_110 : decode cX8_join 110 = .ok (.getfield 38, 3) := by decide +kernel
theorem dX8_join_113 : decode cX8_join 113 = .ok (.iconst 4, 1) := by decide +kernel
theorem dX8_join_114 : decode cX8_join 114 = .ok (.iload_n 2, 1) := by decide +kernel
theorem dX8_join_115 : decode cX8_join 115 = .ok (.imul, 1) := by decide +kernel
theorem dX8_join_116 : decode cX8_join 116 = .ok (.iload 4, 2) := by decide +kernel
theorem dX8_join_118 : decode cX8_join 118 = .ok (.ifCond .eq 12, 3) := by decide +kernel
theorem dX8_join_121 : decode cX8_join 121 = .ok (.iload_n 3, 1) := by decide +kernel
theorem dX8_join_122 : decode cX8_join 122 = .ok (.iconst 1, 1) := by decide +kernel
theorem dX8_join_123 : decode cX8_join 123 = .ok (.isub, 1) := by decide +kernel
theorem dX8_join_124 : decode cX8_join 124 = .ok (.iload 5, 2) := by decide +kernel
theorem dX8_join_126 : decode cX8_join 126 = .ok (.isub, 1) := by decide +kernel
theorem dX8_join_127 : decode cX8_join 127 = .ok (.goto 5, 3) := by decide +kernel
theorem dX8_join_130 : decode cX8_join 130 = .ok (.iload 5, 2) := by decide +kernel
theorem dX8_join_132 : decode cX8_join 132 = .ok (.iadd, 1) := by decide +kernel
theorem dX8_join_133 : decode cX8_join 133 = .ok (.iaload, 1) := by decide +kernel
theorem dX8_join_134 : decode cX8_join 134 = .ok (.invokevirtual 140, 3) := by decide +kernel
theorem dX8_join_137 : decode cX8_join 137 = .ok (.iinc 5 1, 3) := by decide +kernel
theorem dX8_join_140 : decode cX8_join 140 = .ok (.goto (-39), 3) := by decide +kernel
theorem dX8_join_143 : decode cX8_join 143 = .ok (.return_, 1) := by decide +kernel
theorem dX8_strip_0 : decode cX8_strip 0 = .ok (.iconst 0, 1) := by decide +kernel
theorem dX8_strip_1 : decode cX8_strip 1 = .ok (.istore_n 2, 1) := by decide +kernel
theorem dX8_strip_2 : decode cX8_strip 2 = .ok (.iconst 0, 1) := by decide +kernel
theorem dX8_strip_3 : decode cX8_strip 3 = .ok (.istore_n 3, 1) := by decide +kernel
theorem dX8_strip_4 : decode cX8_strip 4 = .ok (.iload_n 3, 1) := by decide +kernel
theorem dX8_strip_5 : decode cX8_strip 5 = .ok (.aload_n 0, 1) := by decide +kernel
theorem dX8_strip_6 : decode cX8_strip 6 = .ok (.getfield 133, 3) := by decide +kernel
theorem dX8_strip_9 : decode cX8_strip 9 = .ok (.if_icmp .ge 37, 3) := by decide +kernel
theorem dX8_strip_12 : decode cX8_strip 12 = .ok (.aload_n 0, 1) := by decide +kernel
theorem dX8_strip_13 : decode cX8_strip 13 = .ok (.getfield 50, 3) := by decide +kernel
theorem dX8_strip_16 : decode cX8_strip 16 = .ok (.iload_n 3, 1) := by decide +kernel
theorem dX8_strip_17 : decode cX8_strip 17 = .ok (.iaload, 1) := by decide +kernel
theorem dX8_strip_18 : decode cX8_strip 18 = .ok (.iload_n 1, 1) := by decide +kernel
theorem dX8_strip_19 : decode cX8_strip 19 = .ok (.if_icmp .ne 6, 3) := by decide +kernel
theorem dX8_strip_22 : decode cX8_strip 22 = .ok (.goto 18, 3) := by decide +kernel
theorem dX8_strip_25 : decode cX8_strip 25 = .ok (.aload_n 0, 1) := by decide +kernel
theorem dX8_strip_26 : decode cX8_strip 26 = .ok (.getfield 50, 3) := by decide +kernel
theorem dX8_strip_29 : decode cX8_strip 29 = .ok (.iload_n 2, 1) := by decide +kernel
theorem dX8_strip_30 : decode cX8_strip 30 = .ok (.aload_n 0, 1) := by decide +kernel
theorem dX8_strip_31 : decode cX8_strip 31 = .ok (.getfield 50, 3) := by decide +kernel
theorem dX8_strip_34 : decode cX8_strip 34 = .ok (.iload_n 3, 1) := by decide +kernel
theorem dX8_strip_35 : decode cX8_strip 35 = .ok (.iaload, 1) := by decide +kernel
theorem dX8_strip_36 : decode cX8_strip 36 = .ok (.iastore, 1) := by decide +kernel
theorem dX8_strip_37 : decode cX8_strip 37 = .ok (.iinc 2 1, 3) := by decide +kernel
theorem dX8_strip_40 : decode cX8_strip 40 = .ok (.iinc 3 1, 3) := by decide +kernel
theorem dX8_strip_43 : decode cX8_strip 43 = .ok (.goto (-39), 3) := by decide +kernel
theorem dX8_strip_46 : decode cX8_strip 46 = .ok (.aload_n 0, 1) := by decide +kernel
theorem dX8_strip_47 : decode cX8_strip 47 = .ok (.iload_n 2, 1) := by decide +kernel
theorem dX8_strip_48 : decode cX8_strip 48 = .ok (.putfield 133, 3) := by decide +kernel
theorem dX8_strip_51 : decode cX8_strip 51 = .ok (.return_, 1) := by decide +kernel
theorem dX8_sort_0 : decode cX8_sort 0 = .ok (.iconst 0, 1) := by decide +kernel
theorem dX8_sort_1 : decode cX8_sort 1 = .ok (.istore_n 1, 1) := by decide +kernel
theorem dX8_sort_2 : decode cX8_sort 2 = .ok (.iload_n 1, 1) := by decide +kernel
theorem dX8_sort_3 : decode cX8_sort 3 = .ok (.sipush 256, 3) := by decide +kernel
theorem dX8_sort_6 : decode cX8_sort 6 = .ok (.if_icmp .ge 16, 3) := by decide +kernel
theorem dX8_sort_9 : decode cX8_sort 9 = .ok (.aload_n 0, 1) := by decide +kernel
theorem dX8_sort_10 : decode cX8_sort 10 = .ok (.getfield 53, 3) := by decide +kernel
theorem dX8_sort_13 : decode cX8_sort 13 = .ok (.iload_n 1, 1) := by decide +kernel
theorem dX8_sort_14 : decode cX8_sort 14 = .ok (.iconst 0, 1) := by decide +kernel
theorem dX8_sort_15 : decode cX8_sort 15 = .ok (.iastore, 1) := by decide +kernel
theorem dX8_sort_16 : decode cX8_sort 16 = .ok (.iinc 1 1, 3) := by decide +kernel
theorem dX8_sort_19 : decode cX8_sort 19 = .ok (.goto (-17), 3) := by decide +kernel
theorem dX8_sort_22 : decode cX8_sort 22 = .ok (.iconst 0, 1) := by decide +kernel
theorem dX8_sort_23 : decode cX8_sort 23 = .ok (.istore_n 1, 1) := by decide +kernel
theorem dX8_sort_24 : decode cX8_sort 24 = .ok (.iload_n 1, 1) := by decide +kernel
theorem dX8_sort_25 : decode cX8_sort 25 = .ok (.aload_n 0, 1) := by decide +kernel
theorem dX8_sort_26 : decode cX8_sort 26 = .ok (.getfield 133, 3) := by decide +kernel
theorem dX8_sort_29 : decode cX8_sort 29 = .ok (.if_icmp .ge 24, 3) := by decide +kernel
theorem dX8_sort_32 : decode cX8_sort 32 = .ok (.aload_n 0, 1) := by decide +kernel
theorem dX8_sort_33 : decode cX8_sort 33 = .ok (.getfield 53, 3) := by decide +kernel
theorem dX8_sort_36 : decode cX8_sort 36 = .ok (.aload_n 0, 1) := by decide +kernel
theorem dX8_sort_37 : decode cX8_sort 37 = .ok (.getfield 50, 3) := by decide +kernel
theorem dX8_sort_40 : decode cX8_sort 40 = .ok (.iload_n 1, 1) := by decide +kernel
theorem dX8_sort_41 : decode cX8_sort 41 = .ok (.iaload, 1) := by decide +kernel
theorem dX8_sort_42 : decode cX8_sort 42 = .ok (.dup2, 1) := by decide +kernel
theorem dX8_sort_43 : decode cX8_sort 43 = .ok (.iaload, 1) := by decide +kernel
theorem dX8_sort_44 : decode cX8_sort 44 = .ok (.iconst 1, 1) := by decide +kernel
theorem dX8_sort_45 : decode cX8_sort 45 = .ok (.iadd, 1) := by decide +kernel
theorem dX8_sort_46 : decode cX8_sort 46 = .ok (.iastore, 1) := by decide +kernel
theorem dX8_sort_47 : decode cX8_sort 47 = .ok (.iinc 1 1, 3) := by decide +kernel
theorem dX8_sort_50 : decode cX8_sort 50 = .ok (.goto (-26), 3) := by decide +kernel
theorem dX8_sort_53 : decode cX8_sort 53 = .ok (.iconst 0, 1) := by decide +kernel
theorem dX8_sort_54 : decode cX8_sort 54 = .ok (.istore_n 1, 1) := by decide +kernel
theorem dX8_sort_55 : decode cX8_sort 55 = .ok (.iconst 0, 1) := by decide +kernel
theorem dX8_sort_56 : decode cX8_sort 56 = .ok (.istore_n 2, 1) := by decide +kernel
theorem dX8_sort_57 : decode cX8_sort 57 = .ok (.iload_n 2, 1) := by decide +kernel
theorem dX8_sort_58 : decode cX8_sort 58 = .ok (.sipush 256, 3) := by decide +kernel
theorem dX8_sort_61 : decode cX8_sort 61 = .ok (.if_icmp .ge 37, 3) := by decide +kernel
theorem dX8_sort_64 : decode cX8_sort 64 = .ok (.iconst 0, 1) := by decide +kernel
theorem dX8_sort_65 : decode cX8_sort 65 = .ok (.istore_n 3, 1) := by decide +kernel
theorem dX8_sort_66 : decode cX8_sort 66 = .ok (.iload_n 3, 1) := by decide +kernel
theorem dX8_sort_67 : decode cX8_sort 67 = .ok (.aload_n 0, 1) := by decide +kernel
theorem dX8_sort_68 : decode cX8_sort 68 = .ok (.getfield 53, 3) := by decide +kernel
theorem dX8_sort_71 : decode cX8_sort 71 = .ok (.iload_n 2, 1) := by decide +kernel
theorem dX8_sort_72 : decode cX8_sort 72 = .ok (.iaload, 1) := by decide +kernel
theorem dX8_sort_73 : decode cX8_sort 73 = .ok (.if_icmp .ge 19, 3) := by decide +kernel
theorem dX8_sort_76 : decode cX8_sort 76 = .ok (.aload_n 0, 1) := by decide +kernel
theorem dX8_sort_77 : decode cX8_sort 77 = .ok (.getfield 50, 3) := by decide +kernel
theorem dX8_sort_80 : decode cX8_sort 80 = .ok (.iload_n 1, 1) := by decide +kernel
theorem dX8_sort_81 : decode cX8_sort 81 = .ok (.iload_n 2, 1) := by decide +kernel
theorem dX8_sort_82 : decode cX8_sort 82 = .ok (.iastore, 1) := by decide +kernel
theorem dX8_sort_83 : decode cX8_sort 83 = .ok (.iinc 1 1, 3) := by decide +kernel
theorem dX8_sort_86 : decode cX8_sort 86 = .ok (.iinc 3 1, 3) := by decide +kernel
theorem dX8_sort_89 : decode cX8_sort 89 = .ok (.goto (-23), 3) := by decide +kernel
theorem dX8_sort_92 : decode cX8_sort 92 = .ok (.iinc 2 1, 3) := by decide +kernel
theorem dX8_sort_95 : decode cX8_sort 95 = .ok (.goto (-38), 3) := by decide +kernel
theorem dX8_sort_98 : decode cX8_sort 98 = .ok (.return_, 1) := by decide +kernel
theorem dX8_sign_0 : decode cX8_sign 0 = .ok (.ldc 144, 2) := by decide +kernel
theorem dX8_sign_2 : decode cX8_sign 2 = .ok (.istore_n 1, 1) := by decide +kernel
theorem dX8_sign_3 : decode cX8_sign 3 = .ok (.iconst 0, 1) := by decide +kernel
theorem dX8_sign_4 : decode cX8_sign 4 = .ok (.istore_n 2, 1) := by decide +kernel
theorem dX8_sign_5 : decode cX8_sign 5 = .ok (.iload_n 2, 1) := by decide +kernel
theorem dX8_sign_6 : decode cX8_sign 6 = .ok (.aload_n 0, 1) := by decide +kernel
theorem dX8_sign_7 : decode cX8_sign 7 = .ok (.getfield 133, 3) := by decide +kernel
theorem dX8_sign_10 : decode cX8_sign 10 = .ok (.if_icmp .ge 21, 3) := by decide +kernel
theorem dX8_sign_13 : decode cX8_sign 13 = .ok (.iload_n 1, 1) := by decide +kernel
theorem dX8_sign_14 : decode cX8_sign 14 = .ok (.aload_n 0, 1) := by decide +kernel
theorem dX8_sign_15 : decode cX8_sign 15 = .ok (.getfield 50, 3) := by decide +kernel
theorem dX8_sign_18 : decode cX8_sign 18 = .ok (.iload_n 2, 1) := by decide +kernel
theorem dX8_sign_19 : decode cX8_sign 19 = .ok (.iaload, 1) := by decide +kernel
theorem dX8_sign_20 : decode cX8_sign 20 = .ok (.ixor, 1) := by decide +kernel
theorem dX8_sign_21 : decode cX8_sign 21 = .ok (.ldc 145, 2) := by decide +kernel
theorem dX8_sign_23 : decode cX8_sign 23 = .ok (.imul, 1) := by decide +kernel
theorem dX8_sign_24 : decode cX8_sign 24 = .ok (.istore_n 1, 1) := by decide +kernel
theorem dX8_sign_25 : decode cX8_sign 25 = .ok (.iinc 2 1, 3) := by decide +kernel
theorem dX8_sign_28 : decode cX8_sign 28 = .ok (.goto (-23), 3) := by decide +kernel
theorem dX8_sign_31 : decode cX8_sign 31 = .ok (.aload_n 0, 1) := by decide +kernel
theorem dX8_sign_32 : decode cX8_sign 32 = .ok (.iconst 4, 1) := by decide +kernel
theorem dX8_sign_33 : decode cX8_sign 33 = .ok (.putfield 133, 3) := by decide +kernel
theorem dX8_sign_36 : decode cX8_sign 36 = .ok (.iconst 0, 1) := by decide +kernel
theorem dX8_sign_37 : decode cX8_sign 37 = .ok (.istore_n 2, 1) := by decide +kernel
theorem dX8_sign_38 : decode cX8_sign 38 = .ok (.iload_n 2, 1) := by decide +kernel
theorem dX8_sign_39 : decode cX8_sign 39 = .ok (.iconst 4, 1) := by decide +kernel
theorem dX8_sign_40 : decode cX8_sign 40 = .ok (.if_icmp .ge 28, 3) := by decide +kernel
theorem dX8_sign_43 : decode cX8_sign 43 = .ok (.aload_n 0, 1) := by decide +kernel
theorem dX8_sign_44 : decode cX8_sign 44 = .ok (.getfield 50, 3) := by decide +kernel
theorem dX8_sign_47 : decode cX8_sign 47 = .ok (.iload_n 2, 1) := by decide +kernel
theorem dX8_sign_48 : decode cX8_sign 48 = .ok (.iload_n 1, 1) := by decide +kernel
theorem dX8_sign_49 : decode cX8_sign 49 = .ok (.bipush 24, 2) := by decide +kernel
theorem dX8_sign_51 : decode cX8_sign 51 = .ok (.bipush 8, 2) := by decide +kernel
theorem dX8_sign_53 : decode cX8_sign 53 = .ok (.iload_n 2, 1) := by decide +kernel
theorem dX8_sign_54 : decode cX8_sign 54 = .ok (.imul, 1) := by decide +kernel
theorem dX8_sign_55 : decode cX8_sign 55 = .ok (.isub, 1) := by decide +kernel
theorem dX8_sign_56 : decode cX8_sign 56 = .ok (.ishr, 1) := by decide +kernel
theorem dX8_sign_57 : decode cX8_sign 57 = .ok (.sipush 255, 3) := by decide +kernel
theorem dX8_sign_60 : decode cX8_sign 60 = .ok (.iand, 1) := by decide +kernel
theorem dX8_sign_61 : decode cX8_sign 61 = .ok (.iastore, 1) := by decide +kernel
theorem dX8_sign_62 : decode cX8_sign 62 = .ok (.iinc 2 1, 3) := by decide +kernel
theorem dX8_sign_65 : decode cX8_sign 65 = .ok (.goto (-27), 3) := by decide +kernel
theorem dX8_sign_68 : decode cX8_sign 68 = .ok (.return_, 1) := by decide +kernel
theorem dX8_make_0 : decode cX8_make 0 = .ok (.bipush 24, 2) := by decide +kernel
theorem dX8_make_2 : decode cX8_make 2 = .ok (.iload_n 1, 1) := by decide +kernel
theorem dX8_make_3 : decode cX8_make 3 = .ok (.imul, 1) := by decide +kernel
theorem dX8_make_4 : decode cX8_make 4 = .ok (.iload_n 2, 1) := by decide +kernel
theorem dX8_make_5 : decode cX8_make 5 = .ok (.iadd, 1) := by decide +kernel
theorem dX8_make_6 : decode cX8_make 6 = .ok (.istore_n 3, 1) := by decide +kernel
theorem dX8_make_7 : decode cX8_make 7 = .ok (.aload_n 0, 1) := by decide +kernel
theorem dX8_make_8 : decode cX8_make 8 = .ok (.getfield 44, 3) := by decide +kernel
theorem dX8_make_11 : decode cX8_make 11 = .ok (.iload_n 3, 1) := by decide +kernel
theorem dX8_make_12 : decode cX8_make 12 = .ok (.iconst (-1), 1) := by decide +kernel
theorem dX8_make_13 : decode cX8_make 13 = .ok (.iastore, 1) := by decide +kernel
theorem dX8_make_14 : decode cX8_make 14 = .ok (.aload_n 0, 1) := by decide +kernel
theorem dX8_make_15 : decode cX8_make 15 = .ok (.iload_n 1, 1) := by decide +kernel
theorem dX8_make_16 : decode cX8_make 16 = .ok (.iload_n 2, 1) := by decide +kernel
theorem dX8_make_17 : decode cX8_make 17 = .ok (.invokevirtual 146, 3) := by decide +kernel
theorem dX8_make_20 : decode cX8_make 20 = .ok (.ifCond .ne 4, 3) := by decide +kernel
theorem dX8_make_23 : decode cX8_make 23 = .ok (.return_, 1) := by decide +kernel
theorem dX8_make_24 : decode cX8_make 24 = .ok (.aload_n 0, 1) := by decide +kernel
theorem dX8_make_25 : decode cX8_make 25 = .ok (.iload_n 1, 1) := by decide +kernel
theorem dX8_make_26 : decode cX8_make 26 = .ok (.iload_n 2, 1) := by decide +kernel
theorem dX8_make_27 : decode cX8_make 27 = .ok (.invokevirtual 150, 3) := by decide +kernel
theorem dX8_make_30 : decode cX8_make 30 = .ok (.aload_n 0, 1) := by decide +kernel
theorem dX8_make_31 : decode cX8_make 31 = .ok (.getfield 133, 3) := by decide +kernel
theorem dX8_make_34 : decode cX8_make 34 = .ok (.sipush 200, 3) := by decide +kernel
theorem dX8_make_37 : decode cX8_make 37 = .ok (.if_icmp .le 4, 3) := by decide +kernel
theorem dX8_make_40 : decode cX8_make 40 = .ok (.return_, 1) := by decide +kernel
theorem dX8_make_41 : decode cX8_make 41 = .ok (.aload_n 0, 1) := by decide +kernel
theorem dX8_make_42 : decode cX8_make 42 = .ok (.getfield 26, 3) := by decide +kernel
theorem dX8_make_45 : decode cX8_make 45 = .ok (.iload_n 2, 1) := by decide +kernel
theorem dX8_make_46 : decode cX8_make 46 = .ok (.iaload, 1) := by decide +kernel
theorem dX8_make_47 : decode cX8_make 47 = .ok (.tableswitch 144 0 6 #[41, 44, 41, 87, 100, 41, 137], 41) := by decide +kernel
theorem dX8_make_88 : decode cX8_make 88 = .ok (.goto 107, 3) := by decide +kernel
theorem dX8_make_91 : decode cX8_make 91 = .ok (.aload_n 0, 1) := by decide +kernel
theorem dX8_make_92 : decode cX8_make 92 = .ok (.getfield 133, 3) := by decide +kernel
theorem dX8_make_95 : decode cX8_make 95 = .ok (.sipush 200, 3) := by decide +kernel
theorem dX8_make_98 : decode cX8_make 98 = .ok (.if_icmp .ge 23, 3) := by decide +kernel
theorem dX8_make_101 : decode cX8_make 101 = .ok (.aload_n 0, 1) := by decide +kernel
theorem dX8_make_102 : decode cX8_make 102 = .ok (.getfield 50, 3) := by decide +kernel
theorem dX8_make_105 : decode cX8_make 105 = .ok (.aload_n 0, 1) := by decide +kernel
theorem dX8_make_106 : decode cX8_make 106 = .ok (.getfield 133, 3) := by decide +kernel
theorem dX8_make_109 : decode cX8_make 109 = .ok (.aload_n 0, 1) := by decide +kernel
theorem dX8_make_110 : decode cX8_make 110 = .ok (.getfield 41, 3) := by decide +kernel
theorem dX8_make_113 : decode cX8_make 113 = .ok (.aload_n 0, 1) := by decide +kernel
theorem dX8_make_114 : decode cX8_make 114 = .ok (.getfield 32, 3) := by decide +kernel
theorem dX8_make_117 : decode cX8_make 117 = .ok (.iload_n 2, 1) := by decide +kernel
theorem dX8_make_118 : decode cX8_make 118 = .ok (.iaload, 1) := by decide +kernel
theorem dX8_make_119 : decode cX8_make 119 = .ok (.iaload, 1) := by decide +kernel
theorem dX8_make_120 : decode cX8_make 120 = .ok (.iastore, 1) := by decide +kernel
theorem dX8_make_121 : decode cX8_make 121 = .ok (.aload_n 0, 1) := by decide +kernel
theorem dX8_make_122 : decode cX8_make 122 = .ok (.dup, 1) := by decide +kernel
theorem dX8_make_123 : decode cX8_make 123 = .ok (.getfield 133, 3) := by decide +kernel
theorem dX8_make_126 : decode cX8_make 126 = .ok (.iconst 1, 1) := by decide +kernel
theorem dX8_make_127 : decode cX8_make 127 = .ok (.iadd, 1) := by decide +kernel
theorem dX8_make_128 : decode cX8_make 128 = .ok (.putfield 133, 3) := by decide +kernel
theorem dX8_make_131 : decode cX8_make 131 = .ok (.goto 64, 3) := by decide +kernel
theorem dX8_make_134 : decode cX8_make 134 = .ok (.aload_n 0, 1) := by decide +kernel
theorem dX8_make_135 : decode cX8_make 135 = .ok (.aload_n 0, 1) := by decide +kernel
theorem dX8_make_136 : decode cX8_make 136 = .ok (.getfield 29, 3) := by decide +kernel
theorem dX8_make_139 : decode cX8_make 139 = .ok (.iload_n 2, 1) := by decide +kernel
theorem dX8_make_140 : decode cX8_make 140 = .ok (.iaload, 1) := by decide +kernel
theorem dX8_make_141 : decode cX8_make 141 = .ok (.invokevirtual 153, 3) := by decide +kernel
theorem dX8_make_144 : decode cX8_make 144 = .ok (.goto 51, 3) := by decide +kernel
theorem dX8_make_147 : decode cX8_make 147 = .ok (.iconst 0, 1) := by decide +kernel
theorem dX8_make_148 : decode cX8_make 148 = .ok (.istore 4, 2) := by decide +kernel
theorem dX8_make_150 : decode cX8_make 150 = .ok (.iload 4, 2) := by decide +kernel
theorem dX8_make_152 : decode cX8_make 152 = .ok (.aload_n 0, 1) := by decide +kernel
theorem dX8_make_153 : decode cX8_make 153 = .ok (.getfield 133, 3) := by decide +kernel
theorem dX8_make_156 : decode cX8_make 156 = .ok (.if_icmp .ge 25, 3) := by decide +kernel
theorem dX8_make_159 : decode cX8_make 159 = .ok (.aload_n 0, 1) := by decide +kernel
theorem dX8_make_160 : decode cX8_make 160 = .ok (.getfield 50, 3) := by decide +kernel
theorem dX8_make_163 : decode cX8_make 163 = .ok (.iload 4, 2) := by decide +kernel
theorem dX8_make_165 : decode cX8_make 165 = .ok (.dup2, 1) := by decide +kernel
theorem dX8_make_166 : decode cX8_make 166 = .ok (.iaload, 1) := by decide +kernel
theorem dX8_make_167 : decode cX8_make 167 = .ok (.aload_n 0, 1) := by decide +kernel
theorem dX8_make_168 : decode cX8_make 168 = .ok (.getfield 29, 3) := by decide +kernel
theorem dX8_make_171 : decode cX8_make 171 = .ok (.iload_n 2, 1) := by decide +kernel
theorem dX8_make_172 : decode cX8_make 172 = .ok (.iaload, 1) := by decide +kernel
theorem dX8_make_173 : decode cX8_make 173 = .ok (.ixor, 1) := by decide +kernel
theorem dX8_make_174 : decode cX8_make 174 = .ok (.iastore, 1) := by decide +kernel
theorem dX8_make_175 : decode cX8_make 175 = .ok (.iinc 4 1, 3) := by decide +kernel
theorem dX8_make_178 : decode cX8_make 178 = .ok (.goto (-28), 3) := by decide +kernel
theorem dX8_make_181 : decode cX8_make 181 = .ok (.goto 14, 3) := by decide +kernel
theorem dX8_make_184 : decode cX8_make 184 = .ok (.aload_n 0, 1) := by decide +kernel
theorem dX8_make_185 : decode cX8_make 185 = .ok (.invokevirtual 157, 3) := by decide +kernel
theorem dX8_make_188 : decode cX8_make 188 = .ok (.goto 7, 3) := by decide +kernel
theorem dX8_make_191 : decode cX8_make 191 = .ok (.aload_n 0, 1) := by decide +kernel
theorem dX8_make_192 : decode cX8_make 192 = .ok (.invokevirtual 160, 3) := by decide +kernel
theorem dX8_make_195 : decode cX8_make 195 = .ok (.aload_n 0, 1) := by decide +kernel
theorem dX8_make_196 : decode cX8_make 196 = .ok (.getfield 133, 3) := by decide +kernel
theorem dX8_make_199 : decode cX8_make 199 = .ok (.sipush 200, 3) := by decide +kernel
theorem dX8_make_202 : decode cX8_make 202 = .ok (.if_icmp .le 4, 3) := by decide +kernel
theorem dX8_make_205 : decode cX8_make 205 = .ok (.return_, 1) := by decide +kernel
theorem dX8_make_206 : decode cX8_make 206 = .ok (.aload_n 0, 1) := by decide +kernel
theorem dX8_make_207 : decode cX8_make 207 = .ok (.getfield 44, 3) := by decide +kernel
theorem dX8_make_210 : decode cX8_make 210 = .ok (.iload_n 3, 1) := by decide +kernel
theorem dX8_make_211 : decode cX8_make 211 = .ok (.aload_n 0, 1) := by decide +kernel
theorem dX8_make_212 : decode cX8_make 212 = .ok (.getfield 133, 3) := by decide +kernel
theorem dX8_make_215 : decode cX8_make 215 = .ok (.iastore, 1) := by decide +kernel
theorem dX8_make_216 : decode cX8_make 216 = .ok (.iconst 0, 1) := by decide +kernel
theorem dX8_make_217 : decode cX8_make 217 = .ok (.istore 4, 2) := by decide +kernel
theorem dX8_make_219 : decode cX8_make 219 = .ok (.iload 4, 2) := by decide +kernel
theorem dX8_make_221 : decode cX8_make 221 = .ok (.aload_n 0, 1) := by decide +kernel
theorem dX8_make_222 : decode cX8_make 222 = .ok (.getfield 133, 3) := by decide +kernel
theorem dX8_make_225 : decode cX8_make 225 = .ok (.if_icmp .ge 29, 3) := by decide +kernel
theorem dX8_make_228 : decode cX8_make 228 = .ok (.aload_n 0, 1) := by decide +kernel
theorem dX8_make_229 : decode cX8_make 229 = .ok (.getfield 47, 3) := by decide +kernel
theorem dX8_make_232 : decode cX8_make 232 = .ok (.sipush 200, 3) := by decide +kernel
theorem dX8_make_235 : decode cX8_make 235 = .ok (.iload_n 3, 1) := by decide +kernel
theorem dX8_make_236 : decode cX8_make 236 = .ok (.imul, 1) := by decide +kernel
theorem dX8_make_237 : decode cX8_make 237 = .ok (.iload 4, 2) := by decide +kernel
theorem dX8_make_239 : decode cX8_make 239 = .ok (.iadd, 1) := by decide +kernel
theorem dX8_make_240 : decode cX8_make 240 = .ok (.aload_n 0, 1) := by decide +kernel
theorem dX8_make_241 : decode cX8_make 241 = .ok (.getfield 50, 3) := by decide +kernel
theorem dX8_make_244 : decode cX8_make 244 = .ok (.iload 4, 2) := by decide +kernel
theorem dX8_make_246 : decode cX8_make 246 = .ok (.iaload, 1) := by decide +kernel
theorem dX8_make_247 : decode cX8_make 247 = .ok (.iastore, 1) := by decide +kernel
theorem dX8_make_248 : decode cX8_make 248 = .ok (.iinc 4 1, 3) := by decide +kernel
theorem dX8_make_251 : decode cX8_make 251 = .ok (.goto (-32), 3) := by decide +kernel
theorem dX8_make_254 : decode cX8_make 254 = .ok (.return_, 1) := by decide +kernel
theorem dX8_build_0 : decode cX8_build 0 = .ok (.iconst 0, 1) := by decide +kernel
theorem dX8_build_1 : decode cX8_build 1 = .ok (.istore_n 3, 1) := by decide +kernel
theorem dX8_build_2 : decode cX8_build 2 = .ok (.iload_n 3, 1) := by decide +kernel
theorem dX8_build_3 : decode cX8_build 3 = .ok (.iload_n 2, 1) := by decide +kernel
theorem dX8_build_4 : decode cX8_build 4 = .ok (.if_icmp .gt 15, 3) := by decide +kernel
theorem dX8_build_7 : decode cX8_build 7 = .ok (.aload_n 0, 1) := by decide +kernel
theorem dX8_build_8 : decode cX8_build 8 = .ok (.iload_n 1, 1) := by decide +kernel
theorem dX8_build_9 : decode cX8_build 9 = .ok (.iload_n 3, 1) := by decide +kernel
theorem dX8_build_10 : decode cX8_build 10 = .ok (.invokevirtual 163, 3) := by decide +kernel
theorem dX8_build_13 : decode cX8_build 13 = .ok (.iinc 3 1, 3) := by decide +kernel
theorem dX8_build_16 : decode cX8_build 16 = .ok (.goto (-14), 3) := by decide +kernel
theorem dX8_build_19 : decode cX8_build 19 = .ok (.return_, 1) := by decide +kernel
theorem dX8_both_0 : decode cX8_both 0 = .ok (.aload_n 0, 1) := by decide +kernel
theorem dX8_both_1 : decode cX8_both 1 = .ok (.iload_n 1, 1) := by decide +kernel
theorem dX8_both_2 : decode cX8_both 2 = .ok (.invokevirtual 166, 3) := by decide +kernel
theorem dX8_both_5 : decode cX8_both 5 = .ok (.aload_n 0, 1) := by decide +kernel
theorem dX8_both_6 : decode cX8_both 6 = .ok (.iconst 0, 1) := by decide +kernel
theorem dX8_both_7 : decode cX8_both 7 = .ok (.iload_n 3, 1) := by decide +kernel
theorem dX8_both_8 : decode cX8_both 8 = .ok (.invokevirtual 169, 3) := by decide +kernel
theorem dX8_both_11 : decode cX8_both 11 = .ok (.aload_n 0, 1) := by decide +kernel
theorem dX8_both_12 : decode cX8_both 12 = .ok (.iload_n 2, 1) := by decide +kernel
theorem dX8_both_13 : decode cX8_both 13 = .ok (.invokevirtual 166, 3) := by decide +kernel
theorem dX8_both_16 : decode cX8_both 16 = .ok (.aload_n 0, 1) := by decide +kernel
theorem dX8_both_17 : decode cX8_both 17 = .ok (.iconst 1, 1) := by decide +kernel
theorem dX8_both_18 : decode cX8_both 18 = .ok (.iload_n 3, 1) := by decide +kernel
theorem dX8_both_19 : decode cX8_both 19 = .ok (.invokevirtual 169, 3) := by decide +kernel
theorem dX8_both_22 : decode cX8_both 22 = .ok (.return_, 1) := by decide +kernel
theorem dX8_areAlike_0 : decode cX8_areAlike 0 = .ok (.aload_n 0, 1) := by decide +kernel
theorem dX8_areAlike_1 : decode cX8_areAlike 1 = .ok (.getfield 44, 3) := by decide +kernel
theorem dX8_areAlike_4 : decode cX8_areAlike 4 = .ok (.iload_n 1, 1) := by decide +kernel
theorem dX8_areAlike_5 : decode cX8_areAlike 5 = .ok (.iaload, 1) := by decide +kernel
theorem dX8_areAlike_6 : decode cX8_areAlike 6 = .ok (.aload_n 0, 1) := by decide +kernel
theorem dX8_areAlike_7 : decode cX8_areAlike 7 = .ok (.getfield 44, 3) := by decide +kernel
theorem dX8_areAlike_10 : decode cX8_areAlike 10 = .ok (.bipush 24, 2) := by decide +kernel
theorem dX8_areAlike_12 : decode cX8_areAlike 12 = .ok (.iload_n 1, 1) := by decide +kernel
theorem dX8_areAlike_13 : decode cX8_areAlike 13 = .ok (.iadd, 1) := by decide +kernel
theorem dX8_areAlike_14 : decode cX8_areAlike 14 = .ok (.iaload, 1) := by decide +kernel
theorem dX8_areAlike_15 : decode cX8_areAlike 15 = .ok (.if_icmp .eq 5, 3) := by decide +kernel
theorem dX8_areAlike_18 : decode cX8_areAlike 18 = .ok (.iconst 0, 1) := by decide +kernel
theorem dX8_areAlike_19 : decode cX8_areAlike 19 = .ok (.ireturn, 1) := by decide +kernel
theorem dX8_areAlike_20 : decode cX8_areAlike 20 = .ok (.iconst 0, 1) := by decide +kernel
theorem dX8_areAlike_21 : decode cX8_areAlike 21 = .ok (.istore_n 2, 1) := by decide +kernel
theorem dX8_areAlike_22 : decode cX8_areAlike 22 = .ok (.iload_n 2, 1) := by decide +kernel
theorem dX8_areAlike_23 : decode cX8_areAlike 23 = .ok (.aload_n 0, 1) := by decide +kernel
theorem dX8_areAlike_24 : decode cX8_areAlike 24 = .ok (.getfield 44, 3) := by decide +kernel
theorem dX8_areAlike_27 : decode cX8_areAlike 27 = .ok (.iload_n 1, 1) := by decide +kernel
theorem dX8_areAlike_28 : decode cX8_areAlike 28 = .ok (.iaload, 1) := by decide +kernel
theorem dX8_areAlike_29 : decode cX8_areAlike 29 = .ok (.if_icmp .ge 41, 3) := by decide +kernel
theorem dX8_areAlike_32 : decode cX8_areAlike 32 = .ok (.aload_n 0, 1) := by decide +kernel
theorem dX8_areAlike_33 : decode cX8_areAlike 33 = .ok (.getfield 47, 3) := by decide +kernel
theorem dX8_areAlike_36 : decode cX8_areAlike 36 = .ok (.sipush 200, 3) := by decide +kernel
theorem dX8_areAlike_39 : decode cX8_areAlike 39 = .ok (.iload_n 1, 1) := by decide +kernel
theorem dX8_areAlike_40 : decode cX8_areAlike 40 = .ok (.imul, 1) := by decide +kernel
theorem dX8_areAlike_41 : decode cX8_areAlike 41 = .ok (.iload_n 2, 1) := by decide +kernel
theorem dX8_areAlike_42 : decode cX8_areAlike 42 = .ok (.iadd, 1) := by decide +kernel
theorem dX8_areAlike_43 : decode cX8_areAlike 43 = .ok (.iaload, 1) := by decide +kernel
theorem dX8_areAlike_44 : decode cX8_areAlike 44 = .ok (.aload_n 0, 1) := by decide +kernel
theorem dX8_areAlike_45 : decode cX8_areAlike 45 = .ok (.getfield 47, 3) := by decide +kernel
theorem dX8_areAlike_48 : decode cX8_areAlike 48 = .ok (.sipush 200, 3) := by decide +kernel
theorem dX8_areAlike_51 : decode cX8_areAlike 51 = .ok (.bipush 24, 2) := by decide +kernel
theorem dX8_areAlike_53 : decode cX8_areAlike 53 = .ok (.iload_n 1, 1) := by decide +kernel
theorem dX8_areAlike_54 : decode cX8_areAlike 54 = .ok (.iadd, 1) := by decide +kernel
theorem dX8_areAlike_55 : decode cX8_areAlike 55 = .ok (.imul, 1) := by decide +kernel
theorem dX8_areAlike_56 : decode cX8_areAlike 56 = .ok (.iload_n 2, 1) := by decide +kernel
theorem dX8_areAlike_57 : decode cX8_areAlike 57 = .ok (.iadd, 1) := by decide +kernel
theorem dX8_areAlike_58 : decode cX8_areAlike 58 = .ok (.iaload, 1) := by decide +kernel
theorem dX8_areAlike_59 : decode cX8_areAlike 59 = .ok (.if_icmp .eq 5, 3) := by decide +kernel
theorem dX8_areAlike_62 : decode cX8_areAlike 62 = .ok (.iconst 0, 1) := by decide +kernel
theorem dX8_areAlike_63 : decode cX8_areAlike 63 = .ok (.ireturn, 1) := by decide +kernel
theorem dX8_areAlike_64 : decode cX8_areAlike 64 = .ok (.iinc 2 1, 3) := by decide +kernel
theorem dX8_areAlike_67 : decode cX8_areAlike 67 = .ok (.goto (-45), 3) := by decide +kernel
theorem dX8_areAlike_70 : decode cX8_areAlike 70 = .ok (.iconst 1, 1) := by decide +kernel
theorem dX8_areAlike_71 : decode cX8_areAlike 71 = .ok (.ireturn, 1) := by decide +kernel
theorem dX8_made_0 : decode cX8_made 0 = .ok (.iload_n 1, 1) := by decide +kernel
theorem dX8_made_1 : decode cX8_made 1 = .ok (.invokestatic 120, 3) := by decide +kernel
theorem dX8_made_4 : decode cX8_made 4 = .ok (.ifCond .eq 11, 3) := by decide +kernel
theorem dX8_made_7 : decode cX8_made 7 = .ok (.aload_n 0, 1) := by decide +kernel
theorem dX8_made_8 : decode cX8_made 8 = .ok (.iload_n 2, 1) := by decide +kernel
theorem dX8_made_9 : decode cX8_made 9 = .ok (.invokevirtual 126, 3) := by decide +kernel
theorem dX8_made_12 : decode cX8_made 12 = .ok (.ifCond .ne 5, 3) := by decide +kernel
theorem dX8_made_15 : decode cX8_made 15 = .ok (.iconst (-1), 1) := by decide +kernel
theorem dX8_made_16 : decode cX8_made 16 = .ok (.ireturn, 1) := by decide +kernel
theorem dX8_made_17 : decode cX8_made 17 = .ok (.aload_n 0, 1) := by decide +kernel
theorem dX8_made_18 : decode cX8_made 18 = .ok (.iload_n 1, 1) := by decide +kernel
theorem dX8_made_19 : decode cX8_made 19 = .ok (.invokevirtual 166, 3) := by decide +kernel
theorem dX8_made_22 : decode cX8_made 22 = .ok (.aload_n 0, 1) := by decide +kernel
theorem dX8_made_23 : decode cX8_made 23 = .ok (.iconst 0, 1) := by decide +kernel
theorem dX8_made_24 : decode cX8_made 24 = .ok (.iload_n 2, 1) := by decide +kernel
theorem dX8_made_25 : decode cX8_made 25 = .ok (.invokevirtual 169, 3) := by decide +kernel
theorem dX8_made_28 : decode cX8_made 28 = .ok (.aload_n 0, 1) := by decide +kernel
theorem dX8_made_29 : decode cX8_made 29 = .ok (.getfield 44, 3) := by decide +kernel
theorem dX8_made_32 : decode cX8_made 32 = .ok (.iload_n 2, 1) := by decide +kernel
theorem dX8_made_33 : decode cX8_made 33 = .ok (.iaload, 1) := by decide +kernel
theorem dX8_made_34 : decode cX8_made 34 = .ok (.iconst (-1), 1) := by decide +kernel
theorem dX8_made_35 : decode cX8_made 35 = .ok (.if_icmp .ne 8, 3) := by decide +kernel
theorem dX8_made_38 : decode cX8_made 38 = .ok (.bipush (-2), 2) := by decide +kernel
theorem dX8_made_40 : decode cX8_made 40 = .ok (.goto 9, 3) := by decide +kernel
theorem dX8_made_43 : decode cX8_made 43 = .ok (.aload_n 0, 1) := by decide +kernel
theorem dX8_made_44 : decode cX8_made 44 = .ok (.getfield 44, 3) := by decide +kernel
theorem dX8_made_47 : decode cX8_made 47 = .ok (.iload_n 2, 1) := by decide +kernel
theorem dX8_made_48 : decode cX8_made 48 = .ok (.iaload, 1) := by decide +kernel
theorem dX8_made_49 : decode cX8_made 49 = .ok (.ireturn, 1) := by decide +kernel
theorem dX8_at_0 : decode cX8_at 0 = .ok (.iload_n 1, 1) := by decide +kernel
theorem dX8_at_1 : decode cX8_at 1 = .ok (.invokestatic 120, 3) := by decide +kernel
theorem dX8_at_4 : decode cX8_at 4 = .ok (.ifCond .eq 22, 3) := by decide +kernel
theorem dX8_at_7 : decode cX8_at 7 = .ok (.aload_n 0, 1) := by decide +kernel
theorem dX8_at_8 : decode cX8_at 8 = .ok (.iload_n 2, 1) := by decide +kernel
theorem dX8_at_9 : decode cX8_at 9 = .ok (.invokevirtual 126, 3) := by decide +kernel
theorem dX8_at_12 : decode cX8_at 12 = .ok (.ifCond .eq 14, 3) := by decide +kernel
theorem dX8_at_15 : decode cX8_at 15 = .ok (.iload_n 3, 1) := by decide +kernel
theorem dX8_at_16 : decode cX8_at 16 = .ok (.iconst 0, 1) := by decide +kernel
theorem dX8_at_17 : decode cX8_at 17 = .ok (.sipush 199, 3) := by decide +kernel
theorem dX8_at_20 : decode cX8_at 20 = .ok (.invokestatic 99, 3) := by decide +kernel
theorem dX8_at_23 : decode cX8_at 23 = .ok (.ifCond .ne 5, 3) := by decide +kernel
theorem dX8_at_26 : decode cX8_at 26 = .ok (.iconst (-1), 1) := by decide +kernel
theorem dX8_at_27 : decode cX8_at 27 = .ok (.ireturn, 1) := by decide +kernel
theorem dX8_at_28 : decode cX8_at 28 = .ok (.aload_n 0, 1) := by decide +kernel
theorem dX8_at_29 : decode cX8_at 29 = .ok (.iload_n 1, 1) := by decide +kernel
theorem dX8_at_30 : decode cX8_at 30 = .ok (.invokevirtual 166, 3) := by decide +kernel
theorem dX8_at_33 : decode cX8_at 33 = .ok (.aload_n 0, 1) := by decide +kernel
theorem dX8_at_34 : decode cX8_at 34 = .ok (.iconst 0, 1) := by decide +kernel
theorem dX8_at_35 : decode cX8_at 35 = .ok (.iload_n 2, 1) := by decide +kernel
theorem dX8_at_36 : decode cX8_at 36 = .ok (.invokevirtual 169, 3) := by decide +kernel
theorem dX8_at_39 : decode cX8_at 39 = .ok (.aload_n 0, 1) := by decide +kernel
theorem dX8_at_40 : decode cX8_at 40 = .ok (.getfield 44, 3) := by decide +kernel
theorem dX8_at_43 : decode cX8_at 43 = .ok (.iload_n 2, 1) := by decide +kernel
theorem dX8_at_44 : decode cX8_at 44 = .ok (.iaload, 1) := by decide +kernel
theorem dX8_at_45 : decode cX8_at 45 = .ok (.iconst (-1), 1) := by decide +kernel
theorem dX8_at_46 : decode cX8_at 46 = .ok (.if_icmp .ne 6, 3) := by decide +kernel
theorem dX8_at_49 : decode cX8_at 49 = .ok (.bipush (-2), 2) := by decide +kernel
theorem dX8_at_51 : decode cX8_at 51 = .ok (.ireturn, 1) := by decide +kernel
theorem dX8_at_52 : decode cX8_at 52 = .ok (.iload_n 3, 1) := by decide +kernel
theorem dX8_at_53 : decode cX8_at 53 = .ok (.aload_n 0, 1) := by decide +kernel
theorem dX8_at_54 : decode cX8_at 54 = .ok (.getfield 44, 3) := by decide +kernel
theorem dX8_at_57 : decode cX8_at 57 = .ok (.iload_n 2, 1) := by decide +kernel
theorem dX8_at_58 : decode cX8_at 58 = .ok (.iaload, 1) := by decide +kernel
theorem dX8_at_59 : decode cX8_at 59 = .ok (.if_icmp .ge 18, 3) := by decide +kernel
theorem dX8_at_62 : decode cX8_at 62 = .ok (.aload_n 0, 1) := by decide +kernel
theorem dX8_at_63 : decode cX8_at 63 = .ok (.getfield 47, 3) := by decide +kernel
theorem dX8_at_66 : decode cX8_at 66 = .ok (.sipush 200, 3) := by decide +kernel
theorem dX8_at_69 : decode cX8_at 69 = .ok (.iload_n 2, 1) := by decide +kernel
theorem dX8_at_70 : decode cX8_at 70 = .ok (.imul, 1) := by decide +kernel
theorem dX8_at_71 : decode cX8_at 71 = .ok (.iload_n 3, 1) := by decide +kernel
theorem dX8_at_72 : decode cX8_at 72 = .ok (.iadd, 1) := by decide +kernel
theorem dX8_at_73 : decode cX8_at 73 = .ok (.iaload, 1) := by decide +kernel
theorem dX8_at_74 : decode cX8_at 74 = .ok (.goto 4, 3) := by decide +kernel
theorem dX8_at_77 : decode cX8_at 77 = .ok (.iconst (-1), 1) := by decide +kernel
theorem dX8_at_78 : decode cX8_at 78 = .ok (.ireturn, 1) := by decide +kernel
theorem dX8_usedBy_0 : decode cX8_usedBy 0 = .ok (.iconst 1, 1) := by decide +kernel
theorem dX8_usedBy_1 : decode cX8_usedBy 1 = .ok (.iload_n 1, 1) := by decide +kernel
theorem dX8_usedBy_2 : decode cX8_usedBy 2 = .ok (.ishl, 1) := by decide +kernel
theorem dX8_usedBy_3 : decode cX8_usedBy 3 = .ok (.istore_n 2, 1) := by decide +kernel
theorem dX8_usedBy_4 : decode cX8_usedBy 4 = .ok (.iload_n 1, 1) := by decide +kernel
theorem dX8_usedBy_5 : decode cX8_usedBy 5 = .ok (.istore_n 3, 1) := by decide +kernel
theorem dX8_usedBy_6 : decode cX8_usedBy 6 = .ok (.iload_n 3, 1) := by decide +kernel
theorem dX8_usedBy_7 : decode cX8_usedBy 7 = .ok (.ifCond .lt 75, 3) := by decide +kernel
theorem dX8_usedBy_10 : decode cX8_usedBy 10 = .ok (.iload_n 2, 1) := by decide +kernel
theorem dX8_usedBy_11 : decode cX8_usedBy 11 = .ok (.iload_n 3, 1) := by decide +kernel
theorem dX8_usedBy_12 : decode cX8_usedBy 12 = .ok (.ishr, 1) := by decide +kernel
theorem dX8_usedBy_13 : decode cX8_usedBy 13 = .ok (.iconst 1, 1) := by decide +kernel
theorem dX8_usedBy_14 : decode cX8_usedBy 14 = .ok (.iand, 1) := by decide +kernel
theorem dX8_usedBy_15 : decode cX8_usedBy 15 = .ok (.ifCond .ne 6, 3) := by decide +kernel
theorem dX8_usedBy_18 : decode cX8_usedBy 18 = .ok (.goto 58, 3) := by decide +kernel
theorem dX8_usedBy_21 : decode cX8_usedBy 21 = .ok (.iconst 0, 1) := by decide +kernel
theorem dX8_usedBy_22 : decode cX8_usedBy 22 = .ok (.istore 4, 2) := by decide +kernel
theorem dX8_usedBy_24 : decode cX8_usedBy 24 = .ok (.iload 4, 2) := by decide +kernel
theorem dX8_usedBy_26 : decode cX8_usedBy 26 = .ok (.aload_n 0, 1) := by decide +kernel
theorem dX8_usedBy_27 : decode cX8_usedBy 27 = .ok (.getfield 35, 3) := by decide +kernel
theorem dX8_usedBy_30 : decode cX8_usedBy 30 = .ok (.iload_n 3, 1) := by decide +kernel
theorem dX8_usedBy_31 : decode cX8_usedBy 31 = .ok (.iaload, 1) := by decide +kernel
theorem dX8_usedBy_32 : decode cX8_usedBy 32 = .ok (.if_icmp .ge 44, 3) := by decide +kernel
theorem dX8_usedBy_35 : decode cX8_usedBy 35 = .ok (.aload_n 0, 1) := by decide +kernel
theorem dX8_usedBy_36 : decode cX8_usedBy 36 = .ok (.getfield 38, 3) := by decide +kernel
theorem dX8_usedBy_39 : decode cX8_usedBy 39 = .ok (.iconst 4, 1) := by decide +kernel
theorem dX8_usedBy_40 : decode cX8_usedBy 40 = .ok (.iload_n 3, 1) := by decide +kernel
theorem dX8_usedBy_41 : decode cX8_usedBy 41 = .ok (.imul, 1) := by decide +kernel
theorem dX8_usedBy_42 : decode cX8_usedBy 42 = .ok (.iload 4, 2) := by decide +kernel
theorem dX8_usedBy_44 : decode cX8_usedBy 44 = .ok (.iadd, 1) := by decide +kernel
theorem dX8_usedBy_45 : decode cX8_usedBy 45 = .ok (.iaload, 1) := by decide +kernel
theorem dX8_usedBy_46 : decode cX8_usedBy 46 = .ok (.bipush 100, 2) := by decide +kernel
theorem dX8_usedBy_48 : decode cX8_usedBy 48 = .ok (.if_icmp .lt 22, 3) := by decide +kernel
theorem dX8_usedBy_51 : decode cX8_usedBy 51 = .ok (.iload_n 2, 1) := by decide +kernel
theorem dX8_usedBy_52 : decode cX8_usedBy 52 = .ok (.iconst 1, 1) := by decide +kernel
theorem dX8_usedBy_53 : decode cX8_usedBy 53 = .ok (.aload_n 0, 1) := by decide +kernel
theorem dX8_usedBy_54 : decode cX8_usedBy 54 = .ok (.getfield 38, 3) := by decide +kernel
theorem dX8_usedBy_57 : decode cX8_usedBy 57 = .ok (.iconst 4, 1) := by decide +kernel
theorem dX8_usedBy_58 : decode cX8_usedBy 58 = .ok (.iload_n 3, 1) := by decide +kernel
theorem dX8_usedBy_59 : decode cX8_usedBy 59 = .ok (.imul, 1) := by decide +kernel
theorem dX8_usedBy_60 : decode cX8_usedBy 60 = .ok (.iload 4, 2) := by decide +kernel
theorem dX8_usedBy_62 : decode cX8_usedBy 62 = .ok (.iadd, 1) := by decide +kernel
theorem dX8_usedBy_63 : decode cX8_usedBy 63 = .ok (.iaload, 1) := by decide +kernel
theorem dX8_usedBy_64 : decode cX8_usedBy 64 = .ok (.bipush 100, 2) := by decide +kernel
theorem dX8_usedBy_66 : decode cX8_usedBy 66 = .ok (.isub, 1) := by decide +kernel
theorem dX8_usedBy_67 : decode cX8_usedBy 67 = .ok (.ishl, 1) := by decide +kernel
theorem dX8_usedBy_68 : decode cX8_usedBy 68 = .ok (.ior, 1) := by decide +kernel
theorem dX8_usedBy_69 : decode cX8_usedBy 69 = .ok (.istore_n 2, 1) := by decide +kernel
theorem dX8_usedBy_70 : decode cX8_usedBy 70 = .ok (.iinc 4 1, 3) := by decide +kernel
theorem dX8_usedBy_73 : decode cX8_usedBy 73 = .ok (.goto (-49), 3) := by decide +kernel
theorem dX8_usedBy_76 : decode cX8_usedBy 76 = .ok (.iinc 3 (-1), 3) := by decide +kernel
theorem dX8_usedBy_79 : decode cX8_usedBy 79 = .ok (.goto (-73), 3) := by decide +kernel
theorem dX8_usedBy_82 : decode cX8_usedBy 82 = .ok (.iload_n 2, 1) := by decide +kernel
theorem dX8_usedBy_83 : decode cX8_usedBy 83 = .ok (.ireturn, 1) := by decide +kernel
theorem dX8_readBy_0 : decode cX8_readBy 0 = .ok (.aload_n 0, 1) := by decide +kernel
theorem dX8_readBy_1 : decode cX8_readBy 1 = .ok (.getfield 44, 3) := by decide +kernel
theorem dX8_readBy_4 : decode cX8_readBy 4 = .ok (.iload_n 1, 1) := by decide +kernel
theorem dX8_readBy_5 : decode cX8_readBy 5 = .ok (.iaload, 1) := by decide +kernel
theorem dX8_readBy_6 : decode cX8_readBy 6 = .ok (.iconst (-1), 1) := by decide +kernel
theorem dX8_readBy_7 : decode cX8_readBy 7 = .ok (.if_icmp .eq 44, 3) := by decide +kernel
theorem dX8_readBy_10 : decode cX8_readBy 10 = .ok (.aload_n 0, 1) := by decide +kernel
theorem dX8_readBy_11 : decode cX8_readBy 11 = .ok (.getfield 26, 3) := by decide +kernel
theorem dX8_readBy_14 : decode cX8_readBy 14 = .ok (.iload_n 1, 1) := by decide +kernel
theorem dX8_readBy_15 : decode cX8_readBy 15 = .ok (.iaload, 1) := by decide +kernel
theorem dX8_readBy_16 : decode cX8_readBy 16 = .ok (.iconst 1, 1) := by decide +kernel
theorem dX8_readBy_17 : decode cX8_readBy 17 = .ok (.if_icmp .eq 23, 3) := by decide +kernel
theorem dX8_readBy_20 : decode cX8_readBy 20 = .ok (.aload_n 0, 1) := by decide +kernel
theorem dX8_readBy_21 : decode cX8_readBy 21 = .ok (.getfield 26, 3) := by decide +kernel
theorem dX8_readBy_24 : decode cX8_readBy 24 = .ok (.iload_n 1, 1) := by decide +kernel
theorem dX8_readBy_25 : decode cX8_readBy 25 = .ok (.iaload, 1) := by decide +kernel
theorem dX8_readBy_26 : decode cX8_readBy 26 = .ok (.iconst 2, 1) := by decide +kernel
theorem dX8_readBy_27 : decode cX8_readBy 27 = .ok (.if_icmp .eq 13, 3) := by decide +kernel
theorem dX8_readBy_30 : decode cX8_readBy 30 = .ok (.aload_n 0, 1) := by decide +kernel
theorem dX8_readBy_31 : decode cX8_readBy 31 = .ok (.getfield 26, 3) := by decide +kernel
theorem dX8_readBy_34 : decode cX8_readBy 34 = .ok (.iload_n 1, 1) := by decide +kernel
theorem dX8_readBy_35 : decode cX8_readBy 35 = .ok (.iaload, 1) := by decide +kernel
theorem dX8_readBy_36 : decode cX8_readBy 36 = .ok (.iconst 5, 1) := by decide +kernel
theorem dX8_readBy_37 : decode cX8_readBy 37 = .ok (.if_icmp .ne 14, 3) := by decide +kernel
theorem dX8_readBy_40 : decode cX8_readBy 40 = .ok (.iconst 1, 1) := by decide +kernel
theorem dX8_readBy_41 : decode cX8_readBy 41 = .ok (.aload_n 0, 1) := by decide +kernel
theorem dX8_readBy_42 : decode cX8_readBy 42 = .ok (.getfield 32, 3) := by decide +kernel
theorem dX8_readBy_45 : decode cX8_readBy 45 = .ok (.iload_n 1, 1) := by decide +kernel
theorem dX8_readBy_46 : decode cX8_readBy 46 = .ok (.iaload, 1) := by decide +kernel
theorem dX8_readBy_47 : decode cX8_readBy 47 = .ok (.ishl, 1) := by decide +kernel
theorem dX8_readBy_48 : decode cX8_readBy 48 = .ok (.goto 4, 3) := by decide +kernel
theorem dX8_readBy_51 : decode cX8_readBy 51 = .ok (.iconst 0, 1) := by decide +kernel
theorem dX8_readBy_52 : decode cX8_readBy 52 = .ok (.ireturn, 1) := by decide +kernel
theorem dX8_wordsOf_0 : decode cX8_wordsOf 0 = .ok (.aload_n 0, 1) := by decide +kernel
theorem dX8_wordsOf_1 : decode cX8_wordsOf 1 = .ok (.iload_n 1, 1) := by decide +kernel
theorem dX8_wordsOf_2 : decode cX8_wordsOf 2 = .ok (.invokevirtual 166, 3) := by decide +kernel
theorem dX8_wordsOf_5 : decode cX8_wordsOf 5 = .ok (.aload_n 0, 1) := by decide +kernel
theorem dX8_wordsOf_6 : decode cX8_wordsOf 6 = .ok (.iconst 0, 1) := by decide +kernel
theorem dX8_wordsOf_7 : decode cX8_wordsOf 7 = .ok (.iload_n 2, 1) := by decide +kernel
theorem dX8_wordsOf_8 : decode cX8_wordsOf 8 = .ok (.invokevirtual 169, 3) := by decide +kernel
theorem dX8_wordsOf_11 : decode cX8_wordsOf 11 = .ok (.iload_n 3, 1) := by decide +kernel
theorem dX8_wordsOf_12 : decode cX8_wordsOf 12 = .ok (.ifCond .eq 11, 3) := by decide +kernel
theorem dX8_wordsOf_15 : decode cX8_wordsOf 15 = .ok (.aload_n 0, 1) := by decide +kernel
theorem dX8_wordsOf_16 : decode cX8_wordsOf 16 = .ok (.iload_n 2, 1) := by decide +kernel
theorem dX8_wordsOf_17 : decode cX8_wordsOf 17 = .ok (.invokevirtual 172, 3) := by decide +kernel
theorem dX8_wordsOf_20 : decode cX8_wordsOf 20 = .ok (.goto 6, 3) := by decide +kernel
theorem dX8_wordsOf_23 : decode cX8_wordsOf 23 = .ok (.iconst 1, 1) := by decide +kernel
theorem dX8_wordsOf_24 : decode cX8_wordsOf 24 = .ok (.iload_n 2, 1) := by decide +kernel
theorem dX8_wordsOf_25 : decode cX8_wordsOf 25 = .ok (.ishl, 1) := by decide +kernel
theorem dX8_wordsOf_26 : decode cX8_wordsOf 26 = .ok (.istore 4, 2) := by decide +kernel
theorem dX8_wordsOf_28 : decode cX8_wordsOf 28 = .ok (.iconst 0, 1) := by decide +kernel
theorem dX8_wordsOf_29 : decode cX8_wordsOf 29 = .ok (.istore 5, 2) := by decide +kernel
theorem dX8_wordsOf_31 : decode cX8_wordsOf 31 = .ok (.iconst 0, 1) := by decide +kernel
theorem dX8_wordsOf_32 : decode cX8_wordsOf 32 = .ok (.istore 6, 2) := by decide +kernel
theorem dX8_wordsOf_34 : decode cX8_wordsOf 34 = .ok (.iload 6, 2) := by decide +kernel
theorem dX8_wordsOf_36 : decode cX8_wordsOf 36 = .ok (.iload_n 2, 1) := by decide +kernel
theorem dX8_wordsOf_37 : decode cX8_wordsOf 37 = .ok (.if_icmp .gt 35, 3) := by decide +kernel
theorem dX8_wordsOf_40 : decode cX8_wordsOf 40 = .ok (.iload 5, 2) := by decide +kernel
theorem dX8_wordsOf_42 : decode cX8_wordsOf 42 = .ok (.iload 4, 2) := by decide +kernel
theorem dX8_wordsOf_44 : decode cX8_wordsOf 44 = .ok (.iload 6, 2) := by decide +kernel
theorem dX8_wordsOf_46 : decode cX8_wordsOf 46 = .ok (.ishr, 1) := by decide +kernel
theorem dX8_wordsOf_47 : decode cX8_wordsOf 47 = .ok (.iconst 1, 1) := by decide +kernel
theorem dX8_wordsOf_48 : decode cX8_wordsOf 48 = .ok (.iand, 1) := by decide +kernel
theorem dX8_wordsOf_49 : decode cX8_wordsOf 49 = .ok (.iconst 1, 1) := by decide +kernel
theorem dX8_wordsOf_50 : decode cX8_wordsOf 50 = .ok (.if_icmp .ne 12, 3) := by decide +kernel
theorem dX8_wordsOf_53 : decode cX8_wordsOf 53 = .ok (.aload_n 0, 1) := by decide +kernel
theorem dX8_wordsOf_54 : decode cX8_wordsOf 54 = .ok (.iload 6, 2) := by decide +kernel
theorem dX8_wordsOf_56 : decode cX8_wordsOf 56 = .ok (.invokevirtual 175, 3) := by decide +kernel
theorem dX8_wordsOf_59 : decode cX8_wordsOf 59 = .ok (.goto 4, 3) := by decide +kernel
theorem dX8_wordsOf_62 : decode cX8_wordsOf 62 = .ok (.iconst 0, 1) := by decide +kernel
theorem dX8_wordsOf_63 : decode cX8_wordsOf 63 = .ok (.ior, 1) := by decide +kernel
theorem dX8_wordsOf_64 : decode cX8_wordsOf 64 = .ok (.istore 5, 2) := by decide +kernel
theorem dX8_wordsOf_66 : decode cX8_wordsOf 66 = .ok (.iinc 6 1, 3) := by decide +kernel
theorem dX8_wordsOf_69 : decode cX8_wordsOf 69 = .ok (.goto (-35), 3) := by decide +kernel
theorem dX8_wordsOf_72 : decode cX8_wordsOf 72 = .ok (.iload 5, 2) := by decide +kernel
theorem dX8_wordsOf_74 : decode cX8_wordsOf 74 = .ok (.ireturn, 1) := by decide +kernel
theorem dX8_reads_0 : decode cX8_reads 0 = .ok (.iload_n 1, 1) := by decide +kernel
theorem dX8_reads_1 : decode cX8_reads 1 = .ok (.invokestatic 120, 3) := by decide +kernel
theorem dX8_reads_4 : decode cX8_reads 4 = .ok (.ifCond .eq 39, 3) := by decide +kernel
theorem dX8_reads_7 : decode cX8_reads 7 = .ok (.aload_n 0, 1) := by decide +kernel
theorem dX8_reads_8 : decode cX8_reads 8 = .ok (.iload_n 2, 1) := by decide +kernel
theorem dX8_reads_9 : decode cX8_reads 9 = .ok (.invokevirtual 126, 3) := by decide +kernel
theorem dX8_reads_12 : decode cX8_reads 12 = .ok (.ifCond .eq 31, 3) := by decide +kernel
theorem dX8_reads_15 : decode cX8_reads 15 = .ok (.iload_n 3, 1) := by decide +kernel
theorem dX8_reads_16 : decode cX8_reads 16 = .ok (.iconst 0, 1) := by decide +kernel
theorem dX8_reads_17 : decode cX8_reads 17 = .ok (.iconst 1, 1) := by decide +kernel
theorem dX8_reads_18 : decode cX8_reads 18 = .ok (.invokestatic 99, 3) := by decide +kernel
theorem dX8_reads_21 : decode cX8_reads 21 = .ok (.ifCond .eq 22, 3) := by decide +kernel
theorem dX8_reads_24 : decode cX8_reads 24 = .ok (.aload_n 0, 1) := by decide +kernel
theorem dX8_reads_25 : decode cX8_reads 25 = .ok (.iload_n 1, 1) := by decide +kernel
theorem dX8_reads_26 : decode cX8_reads 26 = .ok (.iload_n 2, 1) := by decide +kernel
theorem dX8_reads_27 : decode cX8_reads 27 = .ok (.iload_n 3, 1) := by decide +kernel
theorem dX8_reads_28 : decode cX8_reads 28 = .ok (.iconst 1, 1) := by decide +kernel
theorem dX8_reads_29 : decode cX8_reads 29 = .ok (.if_icmp .ne 7, 3) := by decide +kernel
theorem dX8_reads_32 : decode cX8_reads 32 = .ok (.iconst 1, 1) := by decide +kernel
theorem dX8_reads_33 : decode cX8_reads 33 = .ok (.goto 4, 3) := by decide +kernel
theorem dX8_reads_36 : decode cX8_reads 36 = .ok (.iconst 0, 1) := by decide +kernel
theorem dX8_reads_37 : decode cX8_reads 37 = .ok (.invokevirtual 178, 3) := by decide +kernel
theorem dX8_reads_40 : decode cX8_reads 40 = .ok (.goto 4, 3) := by decide +kernel
theorem dX8_reads_43 : decode cX8_reads 43 = .ok (.iconst (-1), 1) := by decide +kernel
theorem dX8_reads_44 : decode cX8_reads 44 = .ok (.ireturn, 1) := by decide +kernel
theorem dX8_uses_0 : decode cX8_uses 0 = .ok (.aload_n 0, 1) := by decide +kernel
theorem dX8_uses_1 : decode cX8_uses 1 = .ok (.iload_n 1, 1) := by decide +kernel
theorem dX8_uses_2 : decode cX8_uses 2 = .ok (.invokevirtual 126, 3) := by decide +kernel
theorem dX8_uses_5 : decode cX8_uses 5 = .ok (.ifCond .eq 12, 3) := by decide +kernel
theorem dX8_uses_8 : decode cX8_uses 8 = .ok (.iload_n 2, 1) := by decide +kernel
theorem dX8_uses_9 : decode cX8_uses 9 = .ok (.iconst 0, 1) := by decide +kernel
theorem dX8_uses_10 : decode cX8_uses 10 = .ok (.iconst 1, 1) := by decide +kernel
theorem dX8_uses_11 : decode cX8_uses 11 = .ok (.invokestatic 99, 3) := by decide +kernel
theorem dX8_uses_14 : decode cX8_uses 14 = .ok (.ifCond .ne 5, 3) := by decide +kernel
theorem dX8_uses_17 : decode cX8_uses 17 = .ok (.iconst (-1), 1) := by decide +kernel
theorem dX8_uses_18 : decode cX8_uses 18 = .ok (.ireturn, 1) := by decide +kernel
theorem dX8_uses_19 : decode cX8_uses 19 = .ok (.aload_n 0, 1) := by decide +kernel
theorem dX8_uses_20 : decode cX8_uses 20 = .ok (.iload_n 1, 1) := by decide +kernel
theorem dX8_uses_21 : decode cX8_uses 21 = .ok (.invokevirtual 172, 3) := by decide +kernel
theorem dX8_uses_24 : decode cX8_uses 24 = .ok (.istore_n 3, 1) := by decide +kernel
theorem dX8_uses_25 : decode cX8_uses 25 = .ok (.iload_n 2, 1) := by decide +kernel
theorem dX8_uses_26 : decode cX8_uses 26 = .ok (.ifCond .ne 5, 3) := by decide +kernel
theorem dX8_uses_29 : decode cX8_uses 29 = .ok (.iload_n 3, 1) := by decide +kernel
theorem dX8_uses_30 : decode cX8_uses 30 = .ok (.ireturn, 1) := by decide +kernel
theorem dX8_uses_31 : decode cX8_uses 31 = .ok (.iconst 0, 1) := by decide +kernel
theorem dX8_uses_32 : decode cX8_uses 32 = .ok (.istore 4, 2) := by decide +kernel
theorem dX8_uses_34 : decode cX8_uses 34 = .ok (.iconst 0, 1) := by decide +kernel
theorem dX8_uses_35 : decode cX8_uses 35 = .ok (.istore 5, 2) := by decide +kernel
theorem dX8_uses_37 : decode cX8_uses 37 = .ok (.iload 5, 2) := by decide +kernel
theorem dX8_uses_39 : decode cX8_uses 39 = .ok (.iload_n 1, 1) := by decide +kernel
theorem dX8_uses_40 : decode cX8_uses 40 = .ok (.if_icmp .gt 80, 3) := by decide +kernel
theorem dX8_uses_43 : decode cX8_uses 43 = .ok (.iconst 0, 1) := by decide +kernel
theorem dX8_uses_44 : decode cX8_uses 44 = .ok (.istore 6, 2) := by decide +kernel
theorem dX8_uses_46 : decode cX8_uses 46 = .ok (.iload 6, 2) := by decide +kernel
theorem dX8_uses_48 : decode cX8_uses 48 = .ok (.aload_n 0, 1) := by decide +kernel
theorem dX8_uses_49 : decode cX8_uses 49 = .ok (.getfield 35, 3) := by decide +kernel
theorem dX8_uses_52 : decode cX8_uses 52 = .ok (.iload 5, 2) := by decide +kernel
theorem dX8_uses_54 : decode cX8_uses 54 = .ok (.iaload, 1) := by decide +kernel
theorem dX8_uses_55 : decode cX8_uses 55 = .ok (.if_icmp .ge 59, 3) := by decide +kernel
theorem dX8_uses_58 : decode cX8_uses 58 = .ok (.iload 4, 2) := by decide +kernel
theorem dX8_uses_60 : decode cX8_uses 60 = .ok (.iload_n 3, 1) := by decide +kernel
theorem dX8_uses_61 : decode cX8_uses 61 = .ok (.iload 5, 2) := by decide +kernel
theorem dX8_uses_63 : decode cX8_uses 63 = .ok (.ishr, 1) := by decide +kernel
theorem dX8_uses_64 : decode cX8_uses 64 = .ok (.iconst 1, 1) := by decide +kernel
theorem dX8_uses_65 : decode cX8_uses 65 = .ok (.iand, 1) := by decide +kernel
theorem dX8_uses_66 : decode cX8_uses 66 = .ok (.iconst 1, 1) := by decide +kernel
theorem dX8_uses_67 : decode cX8_uses 67 = .ok (.if_icmp .ne 37, 3) := by decide +kernel
theorem dX8_uses_70 : decode cX8_uses 70 = .ok (.aload_n 0, 1) := by decide +kernel
theorem dX8_uses_71 : decode cX8_uses 71 = .ok (.getfield 38, 3) := by decide +kernel
theorem dX8_uses_74 : decode cX8_uses 74 = .ok (.iconst 4, 1) := by decide +kernel
theorem dX8_uses_75 : decode cX8_uses 75 = .ok (.iload 5, 2) := by decide +kernel
theorem dX8_uses_77 : decode cX8_uses 77 = .ok (.imul, 1) := by decide +kernel
theorem dX8_uses_78 : decode cX8_uses 78 = .ok (.iload 6, 2) := by decide +kernel
theorem dX8_uses_80 : decode cX8_uses 80 = .ok (.iadd, 1) := by decide +kernel
theorem dX8_uses_81 : decode cX8_uses 81 = .ok (.iaload, 1) := by decide +kernel
theorem dX8_uses_82 : decode cX8_uses 82 = .ok (.bipush 100, 2) := by decide +kernel
theorem dX8_uses_84 : decode cX8_uses 84 = .ok (.if_icmp .ge 20, 3) := by decide +kernel
theorem dX8_uses_87 : decode cX8_uses 87 = .ok (.iconst 1, 1) := by decide +kernel
theorem dX8_uses_88 : decode cX8_uses 88 = .ok (.aload_n 0, 1) := by decide +kernel
theorem dX8_uses_89 : decode cX8_uses 89 = .ok (.getfield 38, 3) := by decide +kernel
theorem dX8_uses_92 : decode cX8_uses 92 = .ok (.iconst 4, 1) := by decide +kernel
theorem dX8_uses_93 : decode cX8_uses 93 = .ok (.iload 5, 2) := by decide +kernel
theorem dX8_uses_95 : decode cX8_uses 95 = .ok (.imul, 1) := by decide +kernel
theorem dX8_uses_96 : decode cX8_uses 96 = .ok (.iload 6, 2) := by decide +kernel
theorem dX8_uses_98 : decode cX8_uses 98 = .ok (.iadd, 1) := by decide +kernel
theorem dX8_uses_99 : decode cX8_uses 99 = .ok (.iaload, 1) := by decide +kernel
theorem dX8_uses_100 : decode cX8_uses 100 = .ok (.ishl, 1) := by decide +kernel
theorem dX8_uses_101 : decode cX8_uses 101 = .ok (.goto 4, 3) := by decide +kernel
theorem dX8_uses_104 : decode cX8_uses 104 = .ok (.iconst 0, 1) := by decide +kernel
theorem dX8_uses_105 : decode cX8_uses 105 = .ok (.ior, 1) := by decide +kernel
theorem dX8_uses_106 : decode cX8_uses 106 = .ok (.istore 4, 2) := by decide +kernel
theorem dX8_uses_108 : decode cX8_uses 108 = .ok (.iinc 6 1, 3) := by decide +kernel
theorem dX8_uses_111 : decode cX8_uses 111 = .ok (.goto (-65), 3) := by decide +kernel
theorem dX8_uses_114 : decode cX8_uses 114 = .ok (.iinc 5 1, 3) := by decide +kernel
theorem dX8_uses_117 : decode cX8_uses 117 = .ok (.goto (-80), 3) := by decide +kernel
theorem dX8_uses_120 : decode cX8_uses 120 = .ok (.iload 4, 2) := by decide +kernel
theorem dX8_uses_122 : decode cX8_uses 122 = .ok (.ireturn, 1) := by decide +kernel
theorem dX8_bits_0 : decode cX8_bits 0 = .ok (.iconst 0, 1) := by decide +kernel
theorem dX8_bits_1 : decode cX8_bits 1 = .ok (.istore_n 1, 1) := by decide +kernel
theorem dX8_bits_2 : decode cX8_bits 2 = .ok (.iload_n 0, 1) := by decide +kernel
theorem dX8_bits_3 : decode cX8_bits 3 = .ok (.istore_n 2, 1) := by decide +kernel
theorem dX8_bits_4 : decode cX8_bits 4 = .ok (.iload_n 2, 1) := by decide +kernel
theorem dX8_bits_5 : decode cX8_bits 5 = .ok (.ifCond .eq 15, 3) := by decide +kernel
theorem dX8_bits_8 : decode cX8_bits 8 = .ok (.iinc 1 1, 3) := by decide +kernel
theorem dX8_bits_11 : decode cX8_bits 11 = .ok (.iload_n 2, 1) := by decide +kernel
theorem dX8_bits_12 : decode cX8_bits 12 = .ok (.iload_n 2, 1) := by decide +kernel
theorem dX8_bits_13 : decode cX8_bits 13 = .ok (.iconst 1, 1) := by decide +kernel
theorem dX8_bits_14 : decode cX8_bits 14 = .ok (.isub, 1) := by decide +kernel
theorem dX8_bits_15 : decode cX8_bits 15 = .ok (.iand, 1) := by decide +kernel
theorem dX8_bits_16 : decode cX8_bits 16 = .ok (.istore_n 2, 1) := by decide +kernel
theorem dX8_bits_17 : decode cX8_bits 17 = .ok (.goto (-13), 3) := by decide +kernel
theorem dX8_bits_20 : decode cX8_bits 20 = .ok (.iload_n 1, 1) := by decide +kernel
theorem dX8_bits_21 : decode cX8_bits 21 = .ok (.ireturn, 1) := by decide +kernel
theorem dX8_orders_0 : decode cX8_orders 0 = .ok (.aload_n 0, 1) := by decide +kernel
theorem dX8_orders_1 : decode cX8_orders 1 = .ok (.iload_n 1, 1) := by decide +kernel
theorem dX8_orders_2 : decode cX8_orders 2 = .ok (.invokevirtual 126, 3) := by decide +kernel
theorem dX8_orders_5 : decode cX8_orders 5 = .ok (.ifCond .ne 7, 3) := by decide +kernel
theorem dX8_orders_8 : decode cX8_orders 8 = .ok (.ldc2_w 182, 3) := by decide +kernel
theorem dX8_orders_11 : decode cX8_orders 11 = .ok (.lreturn, 1) := by decide +kernel
theorem dX8_orders_12 : decode cX8_orders 12 = .ok (.aload_n 0, 1) := by decide +kernel
theorem dX8_orders_13 : decode cX8_orders 13 = .ok (.iload_n 1, 1) := by decide +kernel
theorem dX8_orders_14 : decode cX8_orders 14 = .ok (.invokevirtual 172, 3) := by decide +kernel
theorem dX8_orders_17 : decode cX8_orders 17 = .ok (.istore_n 2, 1) := by decide +kernel
theorem dX8_orders_18 : decode cX8_orders 18 = .ok (.iload_n 2, 1) := by decide +kernel
theorem dX8_orders_19 : decode cX8_orders 19 = .ok (.invokestatic 184, 3) := by decide +kernel
theorem dX8_orders_22 : decode cX8_orders 22 = .ok (.istore_n 3, 1) := by decide +kernel
theorem dX8_orders_23 : decode cX8_orders 23 = .ok (.iload_n 3, 1) := by decide +kernel
theorem dX8_orders_24 : decode cX8_orders 24 = .ok (.bipush 16, 2) := by decide +kernel
theorem dX8_orders_26 : decode cX8_orders 26 = .ok (.if_icmp .le 7, 3) := by decide +kernel
theorem dX8_orders_29 : decode cX8_orders 29 = .ok (.ldc2_w 187, 3) := by decide +kernel
theorem dX8_orders_32 : decode cX8_orders 32 = .ok (.lreturn, 1) := by decide +kernel
theorem dX8_orders_33 : decode cX8_orders 33 = .ok (.iconst 0, 1) := by decide +kernel
theorem dX8_orders_34 : decode cX8_orders 34 = .ok (.istore_n 3, 1) := by decide +kernel
theorem dX8_orders_35 : decode cX8_orders 35 = .ok (.iconst 0, 1) := by decide +kernel
theorem dX8_orders_36 : decode cX8_orders 36 = .ok (.istore 4, 2) := by decide +kernel
theorem dX8_orders_38 : decode cX8_orders 38 = .ok (.iload 4, 2) := by decide +kernel
theorem dX8_orders_40 : decode cX8_orders 40 = .ok (.iload_n 1, 1) := by decide +kernel
theorem dX8_orders_41 : decode cX8_orders 41 = .ok (.if_icmp .gt 108, 3) := by decide +kernel
theorem dX8_orders_44 : decode cX8_orders 44 = .ok (.iload_n 2, 1) := by decide +kernel
theorem dX8_orders_45 : decode cX8_orders 45 = .ok (.iload 4, 2) := by decide +kernel
theorem dX8_orders_47 : decode cX8_orders 47 = .ok (.ishr, 1) := by decide +kernel
theorem dX8_orders_48 : decode cX8_orders 48 = .ok (.iconst 1, 1) := by decide +kernel
theorem dX8_orders_49 : decode cX8_orders 49 = .ok (.iand, 1) := by decide +kernel
theorem dX8_orders_50 : decode cX8_orders 50 = .ok (.ifCond .ne 6, 3) := by decide +kernel
theorem dX8_orders_53 : decode cX8_orders 53 = .ok (.goto 90, 3) := by decide +kernel
theorem dX8_orders_56 : decode cX8_orders 56 = .ok (.aload_n 0, 1) := by decide +kernel
theorem dX8_orders_57 : decode cX8_orders 57 = .ok (.getfield 59, 3) := by decide +kernel
theorem dX8_orders_60 : decode cX8_orders 60 = .ok (.iload_n 3, 1) := by decide +kernel
theorem dX8_orders_61 : decode cX8_orders 61 = .ok (.iconst 0, 1) := by decide +kernel
theorem dX8_orders_62 : decode cX8_orders 62 = .ok (.iastore, 1) := by decide +kernel
theorem dX8_orders_63 : decode cX8_orders 63 = .ok (.iconst 0, 1) := by decide +kernel
theorem dX8_orders_64 : decode cX8_orders 64 = .ok (.istore 5, 2) := by decide +kernel
theorem dX8_orders_66 : decode cX8_orders 66 = .ok (.iload 5, 2) := by decide +kernel
theorem dX8_orders_68 : decode cX8_orders 68 = .ok (.aload_n 0, 1) := by decide +kernel
theorem dX8_orders_69 : decode cX8_orders 69 = .ok (.getfield 35, 3) := by decide +kernel
theorem dX8_orders_72 : decode cX8_orders 72 = .ok (.iload 4, 2) := by decide +kernel
theorem dX8_orders_74 : decode cX8_orders 74 = .ok (.iaload, 1) := by decide +kernel
theorem dX8_orders_75 : decode cX8_orders 75 = .ok (.if_icmp .ge 57, 3) := by decide +kernel
theorem dX8_orders_78 : decode cX8_orders 78 = .ok (.aload_n 0, 1) := by decide +kernel
theorem dX8_orders_79 : decode cX8_orders 79 = .ok (.getfield 38, 3) := by decide +kernel
theorem dX8_orders_82 : decode cX8_orders 82 = .ok (.iconst 4, 1) := by decide +kernel
theorem dX8_orders_83 : decode cX8_orders 83 = .ok (.iload 4, 2) := by decide +kernel
theorem dX8_orders_85 : decode cX8_orders 85 = .ok (.imul, 1) := by decide +kernel
theorem dX8_orders_86 : decode cX8_orders 86 = .ok (.iload 5, 2) := by decide +kernel
theorem dX8_orders_88 : decode cX8_orders 88 = .ok (.iadd, 1) := by decide +kernel
theorem dX8_orders_89 : decode cX8_orders 89 = .ok (.iaload, 1) := by decide +kernel
theorem dX8_orders_90 : decode cX8_orders 90 = .ok (.bipush 100, 2) := by decide +kernel
theorem dX8_orders_92 : decode cX8_orders 92 = .ok (.if_icmp .lt 34, 3) := by decide +kernel
theorem dX8_orders_95 : decode cX8_orders 95 = .ok (.aload_n 0, 1) := by decide +kernel
theorem dX8_orders_96 : decode cX8_orders 96 = .ok (.getfield 59, 3) := by decide +kernel
theorem dX8_orders_99 : decode cX8_orders 99 = .ok (.iload_n 3, 1) := by decide +kernel
theorem dX8_orders_100 : decode cX8_orders 100 = .ok (.dup2, 1) := by decide +kernel
theorem dX8_orders_101 : decode cX8_orders 101 = .ok (.iaload, 1) := by decide +kernel
theorem dX8_orders_102 : decode cX8_orders 102 = .ok (.iconst 1, 1) := by decide +kernel
theorem dX8_orders_103 : decode cX8_orders 103 = .ok (.aload_n 0, 1) := by decide +kernel
theorem dX8_orders_104 : decode cX8_orders 104 = .ok (.getfield 56, 3) := by decide +kernel
theorem dX8_orders_107 : decode cX8_orders 107 = .ok (.aload_n 0, 1) := by decide +kernel
theorem dX8_orders_108 : decode cX8_orders 108 = .ok (.getfield 38, 3) := by decide +kernel
theorem dX8_orders_111 : decode cX8_orders 111 = .ok (.iconst 4, 1) := by decide +kernel
theorem dX8_orders_112 : decode cX8_orders 112 = .ok (.iload 4, 2) := by decide +kernel
theorem dX8_orders_114 : decode cX8_orders 114 = .ok (.imul, 1) := by decide +kernel
theorem dX8_orders_115 : decode cX8_orders 115 = .ok (.iload 5, 2) := by decide +kernel
theorem dX8_orders_117 : decode cX8_orders 117 = .ok (.iadd, 1) := by decide +kernel
theorem dX8_orders_118 : decode cX8_orders 118 = .ok (.iaload, 1) := by decide +kernel
theorem dX8_orders_119 : decode cX8_orders 119 = .ok (.bipush 100, 2) := by decide +kernel
theorem dX8_orders_121 : decode cX8_orders 121 = .ok (.isub, 1) := by decide +kernel
theorem dX8_orders_122 : decode cX8_orders 122 = .ok (.iaload, 1) := by decide +kernel
theorem dX8_orders_123 : decode cX8_orders 123 = .ok (.ishl, 1) := by decide +kernel
theorem dX8_orders_124 : decode cX8_orders 124 = .ok (.ior, 1) := by decide +kernel
theorem dX8_orders_125 : decode cX8_orders 125 = .ok (.iastore, 1) := by decide +kernel
theorem dX8_orders_126 : decode cX8_orders 126 = .ok (.iinc 5 1, 3) := by decide +kernel
theorem dX8_orders_129 : decode cX8_orders 129 = .ok (.goto (-63), 3) := by decide +kernel
theorem dX8_orders_132 : decode cX8_orders 132 = .ok (.aload_n 0, 1) := by decide +kernel
theorem dX8_orders_133 : decode cX8_orders 133 = .ok (.getfield 56, 3) := by decide +kernel
theorem dX8_orders_136 : decode cX8_orders 136 = .ok (.iload 4, 2) := by decide +kernel
theorem dX8_orders_138 : decode cX8_orders 138 = .ok (.iload_n 3, 1) := by decide +kernel
theorem dX8_orders_139 : decode cX8_orders 139 = .ok (.iastore, 1) := by decide +kernel
theorem dX8_orders_140 : decode cX8_orders 140 = .ok (.iinc 3 1, 3) := by decide +kernel
theorem dX8_orders_143 : decode cX8_orders 143 = .ok (.iinc 4 1, 3) := by decide +kernel
theorem dX8_orders_146 : decode cX8_orders 146 = .ok (.goto (-108), 3) := by decide +kernel
theorem dX8_orders_149 : decode cX8_orders 149 = .ok (.aload_n 0, 1) := by decide +kernel
theorem dX8_orders_150 : decode cX8_orders 150 = .ok (.getfield 63, 3) := by decide +kernel
theorem dX8_orders_153 : decode cX8_orders 153 = .ok (.iconst 0, 1) := by decide +kernel
theorem dX8_orders_154 : decode cX8_orders 154 = .ok (.lconst 1, 1) := by decide +kernel
theorem dX8_orders_155 : decode cX8_orders 155 = .ok (.lastore, 1) := by decide +kernel
theorem dX8_orders_156 : decode cX8_orders 156 = .ok (.iconst 1, 1) := by decide +kernel
theorem dX8_orders_157 : decode cX8_orders 157 = .ok (.istore 4, 2) := by decide +kernel
theorem dX8_orders_159 : decode cX8_orders 159 = .ok (.iload 4, 2) := by decide +kernel
theorem dX8_orders_161 : decode cX8_orders 161 = .ok (.iconst 1, 1) := by decide +kernel
theorem dX8_orders_162 : decode cX8_orders 162 = .ok (.iload_n 3, 1) := by decide +kernel
theorem dX8_orders_163 : decode cX8_orders 163 = .ok (.ishl, 1) := by decide +kernel
theorem dX8_orders_164 : decode cX8_orders 164 = .ok (.if_icmp .ge 82, 3) := by decide +kernel
theorem dX8_orders_167 : decode cX8_orders 167 = .ok (.aload_n 0, 1) := by decide +kernel
theorem dX8_orders_168 : decode cX8_orders 168 = .ok (.getfield 63, 3) := by decide +kernel
theorem dX8_orders_171 : decode cX8_orders 171 = .ok (.iload 4, 2) := by decide +kernel
theorem dX8_orders_173 : decode cX8_orders 173 = .ok (.lconst 0, 1) := by decide +kernel
theorem dX8_orders_174 : decode cX8_orders 174 = .ok (.lastore, 1) := by decide +kernel
theorem dX8_orders_175 : decode cX8_orders 175 = .ok (.iconst 0, 1) := by decide +kernel
theorem dX8_orders_176 : decode cX8_orders 176 = .ok (.istore 5, 2) := by decide +kernel
theorem dX8_orders_178 : decode cX8_orders 178 = .ok (.iload 5, 2) := by decide +kernel
theorem dX8_orders_180 : decode cX8_orders 180 = .ok (.iload_n 3, 1) := by decide +kernel
theorem dX8_orders_181 : decode cX8_orders 181 = .ok (.if_icmp .ge 59, 3) := by decide +kernel
theorem dX8_orders_184 : decode cX8_orders 184 = .ok (.iload 4, 2) := by decide +kernel
theorem dX8_orders_186 : decode cX8_orders 186 = .ok (.iconst 1, 1) := by decide +kernel
theorem dX8_orders_187 : decode cX8_orders 187 = .ok (.iload 5, 2) := by decide +kernel
theorem dX8_orders_189 : decode cX8_orders 189 = .ok (.ishl, 1) := by decide +kernel
theorem dX8_orders_190 : decode cX8_orders 190 = .ok (.iconst (-1), 1) := by decide +kernel
theorem dX8_orders_191 : decode cX8_orders 191 = .ok (.ixor, 1) := by decide +kernel
theorem dX8_orders_192 : decode cX8_orders 192 = .ok (.iand, 1) := by decide +kernel
theorem dX8_orders_193 : decode cX8_orders 193 = .ok (.istore 6, 2) := by decide +kernel
theorem dX8_orders_195 : decode cX8_orders 195 = .ok (.iload 6, 2) := by decide +kernel
theorem dX8_orders_197 : decode cX8_orders 197 = .ok (.iload 4, 2) := by decide +kernel
theorem dX8_orders_199 : decode cX8_orders 199 = .ok (.if_icmp .eq 35, 3) := by decide +kernel
theorem dX8_orders_202 : decode cX8_orders 202 = .ok (.aload_n 0, 1) := by decide +kernel
theorem dX8_orders_203 : decode cX8_orders 203 = .ok (.getfield 59, 3) := by decide +kernel
theorem dX8_orders_206 : decode cX8_orders 206 = .ok (.iload 5, 2) := by decide +kernel
theorem dX8_orders_208 : decode cX8_orders 208 = .ok (.iaload, 1) := by decide +kernel
theorem dX8_orders_209 : decode cX8_orders 209 = .ok (.iload 6, 2) := by decide +kernel
theorem dX8_orders_211 : decode cX8_orders 211 = .ok (.iconst (-1), 1) := by decide +kernel
theorem dX8_orders_212 : decode cX8_orders 212 = .ok (.ixor, 1) := by decide +kernel
theorem dX8_orders_213 : decode cX8_orders 213 = .ok (.iand, 1) := by decide +kernel
theorem dX8_orders_214 : decode cX8_orders 214 = .ok (.ifCond .ne 20, 3) := by decide +kernel
theorem dX8_orders_217 : decode cX8_orders 217 = .ok (.aload_n 0, 1) := by decide +kernel
theorem dX8_orders_218 : decode cX8_orders 218 = .ok (.getfield 63, 3) := by decide +kernel
theorem dX8_orders_221 : decode cX8_orders 221 = .ok (.iload 4, 2) := by decide +kernel
theorem dX8_orders_223 : decode cX8_orders 223 = .ok (.dup2, 1) := by decide +kernel
theorem dX8_orders_224 : decode cX8_orders 224 = .ok (.laload, 1) := by decide +kernel
theorem dX8_orders_225 : decode cX8_orders 225 = .ok (.aload_n 0, 1) := by decide +kernel
theorem dX8_orders_226 : decode cX8_orders 226 = .ok (.getfield 63, 3) := by decide +kernel
theorem dX8_orders_229 : decode cX8_orders 229 = .ok (.iload 6, 2) := by decide +kernel
theorem dX8_orders_231 : decode cX8_orders 231 = .ok (.laload, 1) := by decide +kernel
theorem dX8_orders_232 : decode cX8_orders 232 = .ok (.ladd, 1) := by decide +kernel
theorem dX8_orders_233 : decode cX8_orders 233 = .ok (.lastore, 1) := by decide +kernel
theorem dX8_orders_234 : decode cX8_orders 234 = .ok (.iinc 5 1, 3) := by decide +kernel
theorem dX8_orders_237 : decode cX8_orders 237 = .ok (.goto (-59), 3) := by decide +kernel
theorem dX8_orders_240 : decode cX8_orders 240 = .ok (.iinc 4 1, 3) := by decide +kernel
theorem dX8_orders_243 : decode cX8_orders 243 = .ok (.goto (-84), 3) := by decide +kernel
theorem dX8_orders_246 : decode cX8_orders 246 = .ok (.aload_n 0, 1) := by decide +kernel
theorem dX8_orders_247 : decode cX8_orders 247 = .ok (.getfield 63, 3) := by decide +kernel
theorem dX8_orders_250 : decode cX8_orders 250 = .ok (.iconst 1, 1) := by decide +kernel
theorem dX8_orders_251 : decode cX8_orders 251 = .ok (.iload_n 3, 1) := by decide +kernel
theorem dX8_orders_252 : decode cX8_orders 252 = .ok (.ishl, 1) := by decide +kernel
theorem dX8_orders_253 : decode cX8_orders 253 = .ok (.iconst 1, 1) := by decide +kernel
theorem dX8_orders_254 : decode cX8_orders 254 = .ok (.isub, 1) := by decide +kernel
theorem dX8_orders_255 : decode cX8_orders 255 = .ok (.laload, 1) := by decide +kernel
theorem dX8_orders_256 : decode cX8_orders 256 = .ok (.lreturn, 1) := by decide +kernel
theorem dX8_built_0 : decode cX8_built 0 = .ok (.iload_n 1, 1) := by decide +kernel
theorem dX8_built_1 : decode cX8_built 1 = .ok (.invokestatic 120, 3) := by decide +kernel
theorem dX8_built_4 : decode cX8_built 4 = .ok (.ifCond .ne 5, 3) := by decide +kernel
theorem dX8_built_7 : decode cX8_built 7 = .ok (.iconst (-1), 1) := by decide +kernel
theorem dX8_built_8 : decode cX8_built 8 = .ok (.ireturn, 1) := by decide +kernel
theorem dX8_built_9 : decode cX8_built 9 = .ok (.aload_n 0, 1) := by decide +kernel
theorem dX8_built_10 : decode cX8_built 10 = .ok (.iload_n 1, 1) := by decide +kernel
theorem dX8_built_11 : decode cX8_built 11 = .ok (.invokevirtual 166, 3) := by decide +kernel
theorem dX8_built_14 : decode cX8_built 14 = .ok (.aload_n 0, 1) := by decide +kernel
theorem dX8_built_15 : decode cX8_built 15 = .ok (.iconst 0, 1) := by decide +kernel
theorem dX8_built_16 : decode cX8_built 16 = .ok (.aload_n 0, 1) := by decide +kernel
theorem dX8_built_17 : decode cX8_built 17 = .ok (.getfield 113, 3) := by decide +kernel
theorem dX8_built_20 : decode cX8_built 20 = .ok (.iconst 1, 1) := by decide +kernel
theorem dX8_built_21 : decode cX8_built 21 = .ok (.isub, 1) := by decide +kernel
theorem dX8_built_22 : decode cX8_built 22 = .ok (.invokevirtual 169, 3) := by decide +kernel
theorem dX8_built_25 : decode cX8_built 25 = .ok (.iconst 0, 1) := by decide +kernel
theorem dX8_built_26 : decode cX8_built 26 = .ok (.istore_n 2, 1) := by decide +kernel
theorem dX8_built_27 : decode cX8_built 27 = .ok (.iconst 0, 1) := by decide +kernel
theorem dX8_built_28 : decode cX8_built 28 = .ok (.istore_n 3, 1) := by decide +kernel
theorem dX8_built_29 : decode cX8_built 29 = .ok (.iload_n 3, 1) := by decide +kernel
theorem dX8_built_30 : decode cX8_built 30 = .ok (.aload_n 0, 1) := by decide +kernel
theorem dX8_built_31 : decode cX8_built 31 = .ok (.getfield 113, 3) := by decide +kernel
theorem dX8_built_34 : decode cX8_built 34 = .ok (.if_icmp .ge 27, 3) := by decide +kernel
theorem dX8_built_37 : decode cX8_built 37 = .ok (.iload_n 2, 1) := by decide +kernel
theorem dX8_built_38 : decode cX8_built 38 = .ok (.aload_n 0, 1) := by decide +kernel
theorem dX8_built_39 : decode cX8_built 39 = .ok (.getfield 44, 3) := by decide +kernel
theorem dX8_built_42 : decode cX8_built 42 = .ok (.iload_n 3, 1) := by decide +kernel
theorem dX8_built_43 : decode cX8_built 43 = .ok (.iaload, 1) := by decide +kernel
theorem dX8_built_44 : decode cX8_built 44 = .ok (.iconst (-1), 1) := by decide +kernel
theorem dX8_built_45 : decode cX8_built 45 = .ok (.if_icmp .ne 7, 3) := by decide +kernel
theorem dX8_built_48 : decode cX8_built 48 = .ok (.iconst 0, 1) := by decide +kernel
theorem dX8_built_49 : decode cX8_built 49 = .ok (.goto 4, 3) := by decide +kernel
theorem dX8_built_52 : decode cX8_built 52 = .ok (.iconst 1, 1) := by decide +kernel
theorem dX8_built_53 : decode cX8_built 53 = .ok (.iadd, 1) := by decide +kernel
theorem dX8_built_54 : decode cX8_built 54 = .ok (.istore_n 2, 1) := by decide +kernel
theorem dX8_built_55 : decode cX8_built 55 = .ok (.iinc 3 1, 3) := by decide +kernel
theorem dX8_built_58 : decode cX8_built 58 = .ok (.goto (-29), 3) := by decide +kernel
theorem dX8_built_61 : decode cX8_built 61 = .ok (.iload_n 2, 1) := by decide +kernel
theorem dX8_built_62 : decode cX8_built 62 = .ok (.ireturn, 1) := by decide +kernel
theorem dX8_alike_0 : decode cX8_alike 0 = .ok (.iload_n 1, 1) := by decide +kernel
theorem dX8_alike_1 : decode cX8_alike 1 = .ok (.invokestatic 120, 3) := by decide +kernel
theorem dX8_alike_4 : decode cX8_alike 4 = .ok (.ifCond .eq 18, 3) := by decide +kernel
theorem dX8_alike_7 : decode cX8_alike 7 = .ok (.iload_n 2, 1) := by decide +kernel
theorem dX8_alike_8 : decode cX8_alike 8 = .ok (.invokestatic 120, 3) := by decide +kernel
theorem dX8_alike_11 : decode cX8_alike 11 = .ok (.ifCond .eq 11, 3) := by decide +kernel
theorem dX8_alike_14 : decode cX8_alike 14 = .ok (.aload_n 0, 1) := by decide +kernel
theorem dX8_alike_15 : decode cX8_alike 15 = .ok (.iload_n 3, 1) := by decide +kernel
theorem dX8_alike_16 : decode cX8_alike 16 = .ok (.invokevirtual 126, 3) := by decide +kernel
theorem dX8_alike_19 : decode cX8_alike 19 = .ok (.ifCond .ne 5, 3) := by decide +kernel
theorem dX8_alike_22 : decode cX8_alike 22 = .ok (.iconst (-1), 1) := by decide +kernel
theorem dX8_alike_23 : decode cX8_alike 23 = .ok (.ireturn, 1) := by decide +kernel
theorem dX8_alike_24 : decode cX8_alike 24 = .ok (.aload_n 0, 1) := by decide +kernel
theorem dX8_alike_25 : decode cX8_alike 25 = .ok (.iload_n 1, 1) := by decide +kernel
theorem dX8_alike_26 : decode cX8_alike 26 = .ok (.iload_n 2, 1) := by decide +kernel
theorem dX8_alike_27 : decode cX8_alike 27 = .ok (.iload_n 3, 1) := by decide +kernel
theorem dX8_alike_28 : decode cX8_alike 28 = .ok (.invokevirtual 189, 3) := by decide +kernel
theorem dX8_alike_31 : decode cX8_alike 31 = .ok (.aload_n 0, 1) := by decide +kernel
theorem dX8_alike_32 : decode cX8_alike 32 = .ok (.iload_n 3, 1) := by decide +kernel
theorem dX8_alike_33 : decode cX8_alike 33 = .ok (.invokevirtual 193, 3) := by decide +kernel
theorem dX8_alike_36 : decode cX8_alike 36 = .ok (.ifCond .eq 7, 3) := by decide +kernel
theorem dX8_alike_39 : decode cX8_alike 39 = .ok (.iconst 1, 1) := by decide +kernel
theorem dX8_alike_40 : decode cX8_alike 40 = .ok (.goto 4, 3) := by decide +kernel
theorem dX8_alike_43 : decode cX8_alike 43 = .ok (.iconst 0, 1) := by decide +kernel
theorem dX8_alike_44 : decode cX8_alike 44 = .ok (.ireturn, 1) := by decide +kernel
theorem dX8_first_0 : decode cX8_first 0 = .ok (.aload_n 0, 1) := by decide +kernel
theorem dX8_first_1 : decode cX8_first 1 = .ok (.getfield 47, 3) := by decide +kernel
theorem dX8_first_4 : decode cX8_first 4 = .ok (.sipush 200, 3) := by decide +kernel
theorem dX8_first_7 : decode cX8_first 7 = .ok (.iload_n 1, 1) := by decide +kernel
theorem dX8_first_8 : decode cX8_first 8 = .ok (.imul, 1) := by decide +kernel
theorem dX8_first_9 : decode cX8_first 9 = .ok (.iload_n 2, 1) := by decide +kernel
theorem dX8_first_10 : decode cX8_first 10 = .ok (.iadd, 1) := by decide +kernel
theorem dX8_first_11 : decode cX8_first 11 = .ok (.iaload, 1) := by decide +kernel
theorem dX8_first_12 : decode cX8_first 12 = .ok (.ireturn, 1) := by decide +kernel
theorem dX8_second_0 : decode cX8_second 0 = .ok (.aload_n 0, 1) := by decide +kernel
theorem dX8_second_1 : decode cX8_second 1 = .ok (.getfield 47, 3) := by decide +kernel
theorem dX8_second_4 : decode cX8_second 4 = .ok (.sipush 200, 3) := by decide +kernel
theorem dX8_second_7 : decode cX8_second 7 = .ok (.bipush 24, 2) := by decide +kernel
theorem dX8_second_9 : decode cX8_second 9 = .ok (.iload_n 1, 1) := by decide +kernel
theorem dX8_second_10 : decode cX8_second 10 = .ok (.iadd, 1) := by decide +kernel
theorem dX8_second_11 : decode cX8_second 11 = .ok (.imul, 1) := by decide +kernel
theorem dX8_second_12 : decode cX8_second 12 = .ok (.iload_n 2, 1) := by decide +kernel
theorem dX8_second_13 : decode cX8_second 13 = .ok (.iadd, 1) := by decide +kernel
theorem dX8_second_14 : decode cX8_second 14 = .ok (.iaload, 1) := by decide +kernel
theorem dX8_second_15 : decode cX8_second 15 = .ok (.ireturn, 1) := by decide +kernel
theorem dX8_findFar_0 : decode cX8_findFar 0 = .ok (.iload_n 2, 1) := by decide +kernel
theorem dX8_findFar_1 : decode cX8_findFar 1 = .ok (.istore 4, 2) := by decide +kernel
theorem dX8_findFar_3 : decode cX8_findFar 3 = .ok (.iload 4, 2) := by decide +kernel
theorem dX8_findFar_5 : decode cX8_findFar 5 = .ok (.ifCond .lt 180, 3) := by decide +kernel
theorem dX8_findFar_8 : decode cX8_findFar 8 = .ok (.iload_n 3, 1) := by decide +kernel
theorem dX8_findFar_9 : decode cX8_findFar 9 = .ok (.istore 5, 2) := by decide +kernel
theorem dX8_findFar_11 : decode cX8_findFar 11 = .ok (.iload 5, 2) := by decide +kernel
theorem dX8_findFar_13 : decode cX8_findFar 13 = .ok (.ifCond .lt 166, 3) := by decide +kernel
theorem dX8_findFar_16 : decode cX8_findFar 16 = .ok (.iload 4, 2) := by decide +kernel
theorem dX8_findFar_18 : decode cX8_findFar 18 = .ok (.iload_n 2, 1) := by decide +kernel
theorem dX8_findFar_19 : decode cX8_findFar 19 = .ok (.if_icmp .eq 9, 3) := by decide +kernel
theorem dX8_findFar_22 : decode cX8_findFar 22 = .ok (.iload 5, 2) := by decide +kernel
theorem dX8_findFar_24 : decode cX8_findFar 24 = .ok (.iload_n 3, 1) := by decide +kernel
theorem dX8_findFar_25 : decode cX8_findFar 25 = .ok (.if_icmp .ne 17, 3) := by decide +kernel
theorem dX8_findFar_28 : decode cX8_findFar 28 = .ok (.iload_n 2, 1) := by decide +kernel
theorem dX8_findFar_29 : decode cX8_findFar 29 = .ok (.iload 4, 2) := by decide +kernel
theorem dX8_findFar_31 : decode cX8_findFar 31 = .ok (.isub, 1) := by decide +kernel
theorem dX8_findFar_32 : decode cX8_findFar 32 = .ok (.iload_n 3, 1) := by decide +kernel
theorem dX8_findFar_33 : decode cX8_findFar 33 = .ok (.iadd, 1) := by decide +kernel
theorem dX8_findFar_34 : decode cX8_findFar 34 = .ok (.iload 5, 2) := by decide +kernel
theorem dX8_findFar_36 : decode cX8_findFar 36 = .ok (.isub, 1) := by decide +kernel
theorem dX8_findFar_37 : decode cX8_findFar 37 = .ok (.istore 6, 2) := by decide +kernel
theorem dX8_findFar_39 : decode cX8_findFar 39 = .ok (.goto 118, 3) := by decide +kernel
theorem dX8_findFar_42 : decode cX8_findFar 42 = .ok (.aload_n 0, 1) := by decide +kernel
theorem dX8_findFar_43 : decode cX8_findFar 43 = .ok (.getfield 68, 3) := by decide +kernel
theorem dX8_findFar_46 : decode cX8_findFar 46 = .ok (.sipush 201, 3) := by decide +kernel
theorem dX8_findFar_49 : decode cX8_findFar 49 = .ok (.iload 4, 2) := by decide +kernel
theorem dX8_findFar_51 : decode cX8_findFar 51 = .ok (.iconst 1, 1) := by decide +kernel
theorem dX8_findFar_52 : decode cX8_findFar 52 = .ok (.iadd, 1) := by decide +kernel
theorem dX8_findFar_53 : decode cX8_findFar 53 = .ok (.imul, 1) := by decide +kernel
theorem dX8_findFar_54 : decode cX8_findFar 54 = .ok (.iload 5, 2) := by decide +kernel
theorem dX8_findFar_56 : decode cX8_findFar 56 = .ok (.iadd, 1) := by decide +kernel
theorem dX8_findFar_57 : decode cX8_findFar 57 = .ok (.iconst 1, 1) := by decide +kernel
theorem dX8_findFar_58 : decode cX8_findFar 58 = .ok (.iadd, 1) := by decide +kernel
theorem dX8_findFar_59 : decode cX8_findFar 59 = .ok (.iaload, 1) := by decide +kernel
theorem dX8_findFar_60 : decode cX8_findFar 60 = .ok (.aload_n 0, 1) := by decide +kernel
theorem dX8_findFar_61 : decode cX8_findFar 61 = .ok (.iload_n 1, 1) := by decide +kernel
theorem dX8_findFar_62 : decode cX8_findFar 62 = .ok (.iload 4, 2) := by decide +kernel
theorem dX8_findFar_64 : decode cX8_findFar 64 = .ok (.invokevirtual 196, 3) := by decide +kernel
theorem dX8_findFar_67 : decode cX8_findFar 67 = .ok (.aload_n 0, 1) := by decide +kernel
theorem dX8_findFar_68 : decode cX8_findFar 68 = .ok (.iload_n 1, 1) := by decide +kernel
theorem dX8_findFar_69 : decode cX8_findFar 69 = .ok (.iload 5, 2) := by decide +kernel
theorem dX8_findFar_71 : decode cX8_findFar 71 = .ok (.invokevirtual 199, 3) := by decide +kernel
theorem dX8_findFar_74 : decode cX8_findFar 74 = .ok (.if_icmp .ne 7, 3) := by decide +kernel
theorem dX8_findFar_77 : decode cX8_findFar 77 = .ok (.iconst 0, 1) := by decide +kernel
theorem dX8_findFar_78 : decode cX8_findFar 78 = .ok (.goto 4, 3) := by decide +kernel
theorem dX8_findFar_81 : decode cX8_findFar 81 = .ok (.iconst 1, 1) := by decide +kernel
theorem dX8_findFar_82 : decode cX8_findFar 82 = .ok (.iadd, 1) := by decide +kernel
theorem dX8_findFar_83 : decode cX8_findFar 83 = .ok (.istore 6, 2) := by decide +kernel
theorem dX8_findFar_85 : decode cX8_findFar 85 = .ok (.aload_n 0, 1) := by decide +kernel
theorem dX8_findFar_86 : decode cX8_findFar 86 = .ok (.getfield 68, 3) := by decide +kernel
theorem dX8_findFar_89 : decode cX8_findFar 89 = .ok (.sipush 201, 3) := by decide +kernel
theorem dX8_findFar_92 : decode cX8_findFar 92 = .ok (.iload 4, 2) := by decide +kernel
theorem dX8_findFar_94 : decode cX8_findFar 94 = .ok (.iconst 1, 1) := by decide +kernel
theorem dX8_findFar_95 : decode cX8_findFar 95 = .ok (.iadd, 1) := by decide +kernel
theorem dX8_findFar_96 : decode cX8_findFar 96 = .ok (.imul, 1) := by decide +kernel
theorem dX8_findFar_97 : decode cX8_findFar 97 = .ok (.iload 5, 2) := by decide +kernel
theorem dX8_findFar_99 : decode cX8_findFar 99 = .ok (.iadd, 1) := by decide +kernel
theorem dX8_findFar_100 : decode cX8_findFar 100 = .ok (.iaload, 1) := by decide +kernel
theorem dX8_findFar_101 : decode cX8_findFar 101 = .ok (.iconst 1, 1) := by decide +kernel
theorem dX8_findFar_102 : decode cX8_findFar 102 = .ok (.iadd, 1) := by decide +kernel
theorem dX8_findFar_103 : decode cX8_findFar 103 = .ok (.istore 7, 2) := by decide +kernel
theorem dX8_findFar_105 : decode cX8_findFar 105 = .ok (.aload_n 0, 1) := by decide +kernel
theorem dX8_findFar_106 : decode cX8_findFar 106 = .ok (.getfield 68, 3) := by decide +kernel
theorem dX8_findFar_109 : decode cX8_findFar 109 = .ok (.sipush 201, 3) := by decide +kernel
theorem dX8_findFar_112 : decode cX8_findFar 112 = .ok (.iload 4, 2) := by decide +kernel
theorem dX8_findFar_114 : decode cX8_findFar 114 = .ok (.imul, 1) := by decide +kernel
theorem dX8_findFar_115 : decode cX8_findFar 115 = .ok (.iload 5, 2) := by decide +kernel
theorem dX8_findFar_117 : decode cX8_findFar 117 = .ok (.iadd, 1) := by decide +kernel
theorem dX8_findFar_118 : decode cX8_findFar 118 = .ok (.iconst 1, 1) := by decide +kernel
theorem dX8_findFar_119 : decode cX8_findFar 119 = .ok (.iadd, 1) := by decide +kernel
theorem dX8_findFar_120 : decode cX8_findFar 120 = .ok (.iaload, 1) := by decide +kernel
theorem dX8_findFar_121 : decode cX8_findFar 121 = .ok (.iconst 1, 1) := by decide +kernel
theorem dX8_findFar_122 : decode cX8_findFar 122 = .ok (.iadd, 1) := by decide +kernel
theorem dX8_findFar_123 : decode cX8_findFar 123 = .ok (.istore 8, 2) := by decide +kernel
theorem dX8_findFar_125 : decode cX8_findFar 125 = .ok (.iload 7, 2) := by decide +kernel
theorem dX8_findFar_127 : decode cX8_findFar 127 = .ok (.iload 6, 2) := by decide +kernel
theorem dX8_findFar_129 : decode cX8_findFar 129 = .ok (.if_icmp .ge 8, 3) := by decide +kernel
theorem dX8_findFar_132 : decode cX8_findFar 132 = .ok (.iload 7, 2) := by decide +kernel
theorem dX8_findFar_134 : decode cX8_findFar 134 = .ok (.goto 5, 3) := by decide +kernel
theorem dX8_findFar_137 : decode cX8_findFar 137 = .ok (.iload 6, 2) := by decide +kernel
theorem dX8_findFar_139 : decode cX8_findFar 139 = .ok (.istore 6, 2) := by decide +kernel
theorem dX8_findFar_141 : decode cX8_findFar 141 = .ok (.iload 8, 2) := by decide +kernel
theorem dX8_findFar_143 : decode cX8_findFar 143 = .ok (.iload 6, 2) := by decide +kernel
theorem dX8_findFar_145 : decode cX8_findFar 145 = .ok (.if_icmp .ge 8, 3) := by decide +kernel
theorem dX8_findFar_148 : decode cX8_findFar 148 = .ok (.iload 8, 2) := by decide +kernel
theorem dX8_findFar_150 : decode cX8_findFar 150 = .ok (.goto 5, 3) := by decide +kernel
theorem dX8_findFar_153 : decode cX8_findFar 153 = .ok (.iload 6, 2) := by decide +kernel
theorem dX8_findFar_155 : decode cX8_findFar 155 = .ok (.istore 6, 2) := by decide +kernel
theorem dX8_findFar_157 : decode cX8_findFar 157 = .ok (.aload_n 0, 1) := by decide +kernel
theorem dX8_findFar_158 : decode cX8_findFar 158 = .ok (.getfield 68, 3) := by decide +kernel
theorem dX8_findFar_161 : decode cX8_findFar 161 = .ok (.sipush 201, 3) := by decide +kernel
theorem dX8_findFar_164 : decode cX8_findFar 164 = .ok (.iload 4, 2) := by decide +kernel
theorem dX8_findFar_166 : decode cX8_findFar 166 = .ok (.imul, 1) := by decide +kernel
theorem dX8_findFar_167 : decode cX8_findFar 167 = .ok (.iload 5, 2) := by decide +kernel
theorem dX8_findFar_169 : decode cX8_findFar 169 = .ok (.iadd, 1) := by decide +kernel
theorem dX8_findFar_170 : decode cX8_findFar 170 = .ok (.iload 6, 2) := by decide +kernel
theorem dX8_findFar_172 : decode cX8_findFar 172 = .ok (.iastore, 1) := by decide +kernel
theorem dX8_findFar_173 : decode cX8_findFar 173 = .ok (.iinc 5 (-1), 3) := by decide +kernel
theorem dX8_findFar_176 : decode cX8_findFar 176 = .ok (.goto (-165), 3) := by decide +kernel
theorem dX8_findFar_179 : decode cX8_findFar 179 = .ok (.iinc 4 (-1), 3) := by decide +kernel
theorem dX8_findFar_182 : decode cX8_findFar 182 = .ok (.goto (-179), 3) := by decide +kernel
theorem dX8_findFar_185 : decode cX8_findFar 185 = .ok (.return_, 1) := by decide +kernel
theorem dX8_note_0 : decode cX8_note 0 = .ok (.aload_n 0, 1) := by decide +kernel
theorem dX8_note_1 : decode cX8_note 1 = .ok (.getfield 71, 3) := by decide +kernel
theorem dX8_note_4 : decode cX8_note 4 = .ok (.aload_n 0, 1) := by decide +kernel
theorem dX8_note_5 : decode cX8_note 5 = .ok (.getfield 202, 3) := by decide +kernel
theorem dX8_note_8 : decode cX8_note 8 = .ok (.iload_n 1, 1) := by decide +kernel
theorem dX8_note_9 : decode cX8_note 9 = .ok (.iastore, 1) := by decide +kernel
theorem dX8_note_10 : decode cX8_note 10 = .ok (.aload_n 0, 1) := by decide +kernel
theorem dX8_note_11 : decode cX8_note 11 = .ok (.getfield 74, 3) := by decide +kernel
theorem dX8_note_14 : decode cX8_note 14 = .ok (.aload_n 0, 1) := by decide +kernel
theorem dX8_note_15 : decode cX8_note 15 = .ok (.getfield 202, 3) := by decide +kernel
theorem dX8_note_18 : decode cX8_note 18 = .ok (.iload_n 2, 1) := by decide +kernel
theorem dX8_note_19 : decode cX8_note 19 = .ok (.iastore, 1) := by decide +kernel
theorem dX8_note_20 : decode cX8_note 20 = .ok (.aload_n 0, 1) := by decide +kernel
theorem dX8_note_21 : decode cX8_note 21 = .ok (.getfield 77, 3) := by decide +kernel
theorem dX8_note_24 : decode cX8_note 24 = .ok (.aload_n 0, 1) := by decide +kernel
theorem dX8_note_25 : decode cX8_note 25 = .ok (.getfield 202, 3) := by decide +kernel
theorem dX8_note_28 : decode cX8_note 28 = .ok (.iload_n 3, 1) := by decide +kernel
theorem dX8_note_29 : decode cX8_note 29 = .ok (.iastore, 1) := by decide +kernel
theorem dX8_note_30 : decode cX8_note 30 = .ok (.aload_n 0, 1) := by decide +kernel
theorem dX8_note_31 : decode cX8_note 31 = .ok (.dup, 1) := by decide +kernel
theorem dX8_note_32 : decode cX8_note 32 = .ok (.getfield 202, 3) := by decide +kernel
theorem dX8_note_35 : decode cX8_note 35 = .ok (.iconst 1, 1) := by decide +kernel
theorem dX8_note_36 : decode cX8_note 36 = .ok (.iadd, 1) := by decide +kernel
theorem dX8_note_37 : decode cX8_note 37 = .ok (.putfield 202, 3) := by decide +kernel
theorem dX8_note_40 : decode cX8_note 40 = .ok (.return_, 1) := by decide +kernel
theorem dX8_changes_0 : decode cX8_changes 0 = .ok (.iload_n 1, 1) := by decide +kernel
theorem dX8_changes_1 : decode cX8_changes 1 = .ok (.invokestatic 120, 3) := by decide +kernel
theorem dX8_changes_4 : decode cX8_changes 4 = .ok (.ifCond .eq 18, 3) := by decide +kernel
theorem dX8_changes_7 : decode cX8_changes 7 = .ok (.iload_n 2, 1) := by decide +kernel
theorem dX8_changes_8 : decode cX8_changes 8 = .ok (.invokestatic 120, 3) := by decide +kernel
theorem dX8_changes_11 : decode cX8_changes 11 = .ok (.ifCond .eq 11, 3) := by decide +kernel
theorem dX8_changes_14 : decode cX8_changes 14 = .ok (.aload_n 0, 1) := by decide +kernel
theorem dX8_changes_15 : decode cX8_changes 15 = .ok (.iload_n 3, 1) := by decide +kernel
theorem dX8_changes_16 : decode cX8_changes 16 = .ok (.invokevirtual 126, 3) := by decide +kernel
theorem dX8_changes_19 : decode cX8_changes 19 = .ok (.ifCond .ne 5, 3) := by decide +kernel
theorem dX8_changes_22 : decode cX8_changes 22 = .ok (.iconst (-1), 1) := by decide +kernel
theorem dX8_changes_23 : decode cX8_changes 23 = .ok (.ireturn, 1) := by decide +kernel
theorem dX8_changes_24 : decode cX8_changes 24 = .ok (.aload_n 0, 1) := by decide +kernel
theorem dX8_changes_25 : decode cX8_changes 25 = .ok (.iload_n 1, 1) := by decide +kernel
theorem dX8_changes_26 : decode cX8_changes 26 = .ok (.iload_n 2, 1) := by decide +kernel
theorem dX8_changes_27 : decode cX8_changes 27 = .ok (.iload_n 3, 1) := by decide +kernel
theorem dX8_changes_28 : decode cX8_changes 28 = .ok (.invokevirtual 189, 3) := by decide +kernel
theorem dX8_changes_31 : decode cX8_changes 31 = .ok (.aload_n 0, 1) := by decide +kernel
theorem dX8_changes_32 : decode cX8_changes 32 = .ok (.getfield 44, 3) := by decide +kernel
theorem dX8_changes_35 : decode cX8_changes 35 = .ok (.iload_n 3, 1) := by decide +kernel
theorem dX8_changes_36 : decode cX8_changes 36 = .ok (.iaload, 1) := by decide +kernel
theorem dX8_changes_37 : decode cX8_changes 37 = .ok (.istore 4, 2) := by decide +kernel
theorem dX8_changes_39 : decode cX8_changes 39 = .ok (.aload_n 0, 1) := by decide +kernel
theorem dX8_changes_40 : decode cX8_changes 40 = .ok (.getfield 44, 3) := by decide +kernel
theorem dX8_changes_43 : decode cX8_changes 43 = .ok (.bipush 24, 2) := by decide +kernel
theorem dX8_changes_45 : decode cX8_changes 45 = .ok (.iload_n 3, 1) := by decide +kernel
theorem dX8_changes_46 : decode cX8_changes 46 = .ok (.iadd, 1) := by decide +kernel
theorem dX8_changes_47 : decode cX8_changes 47 = .ok (.iaload, 1) := by decide +kernel
theorem dX8_changes_48 : decode cX8_changes 48 = .ok (.istore 5, 2) := by decide +kernel
theorem dX8_changes_50 : decode cX8_changes 50 = .ok (.iload 4, 2) := by decide +kernel
theorem dX8_changes_52 : decode cX8_changes 52 = .ok (.iconst (-1), 1) := by decide +kernel
theorem dX8_changes_53 : decode cX8_changes 53 = .ok (.if_icmp .eq 9, 3) := by decide +kernel
theorem dX8_changes_56 : decode cX8_changes 56 = .ok (.iload 5, 2) := by decide +kernel
theorem dX8_changes_58 : decode cX8_changes 58 = .ok (.iconst (-1), 1) := by decide +kernel
theorem dX8_changes_59 : decode cX8_changes 59 = .ok (.if_icmp .ne 6, 3) := by decide +kernel
theorem dX8_changes_62 : decode cX8_changes 62 = .ok (.bipush (-2), 2) := by decide +kernel
theorem dX8_changes_64 : decode cX8_changes 64 = .ok (.ireturn, 1) := by decide +kernel
theorem dX8_changes_65 : decode cX8_changes 65 = .ok (.aload_n 0, 1) := by decide +kernel
theorem dX8_changes_66 : decode cX8_changes 66 = .ok (.iload_n 3, 1) := by decide +kernel
theorem dX8_changes_67 : decode cX8_changes 67 = .ok (.iload 4, 2) := by decide +kernel
theorem dX8_changes_69 : decode cX8_changes 69 = .ok (.iload 5, 2) := by decide +kernel
theorem dX8_changes_71 : decode cX8_changes 71 = .ok (.invokevirtual 205, 3) := by decide +kernel
theorem dX8_changes_74 : decode cX8_changes 74 = .ok (.aload_n 0, 1) := by decide +kernel
theorem dX8_changes_75 : decode cX8_changes 75 = .ok (.iconst 0, 1) := by decide +kernel
theorem dX8_changes_76 : decode cX8_changes 76 = .ok (.putfield 202, 3) := by decide +kernel
theorem dX8_changes_79 : decode cX8_changes 79 = .ok (.iconst 0, 1) := by decide +kernel
theorem dX8_changes_80 : decode cX8_changes 80 = .ok (.istore 6, 2) := by decide +kernel
theorem dX8_changes_82 : decode cX8_changes 82 = .ok (.iconst 0, 1) := by decide +kernel
theorem dX8_changes_83 : decode cX8_changes 83 = .ok (.istore 7, 2) := by decide +kernel
theorem dX8_changes_85 : decode cX8_changes 85 = .ok (.iload 6, 2) := by decide +kernel
theorem dX8_changes_87 : decode cX8_changes 87 = .ok (.iload 4, 2) := by decide +kernel
theorem dX8_changes_89 : decode cX8_changes 89 = .ok (.if_icmp .lt 10, 3) := by decide +kernel
theorem dX8_changes_92 : decode cX8_changes 92 = .ok (.iload 7, 2) := by decide +kernel
theorem dX8_changes_94 : decode cX8_changes 94 = .ok (.iload 5, 2) := by decide +kernel
theorem dX8_changes_96 : decode cX8_changes 96 = .ok (.if_icmp .ge 211, 3) := by decide +kernel
theorem dX8_changes_99 : decode cX8_changes 99 = .ok (.aload_n 0, 1) := by decide +kernel
theorem dX8_changes_100 : decode cX8_changes 100 = .ok (.getfield 68, 3) := by decide +kernel
theorem dX8_changes_103 : decode cX8_changes 103 = .ok (.sipush 201, 3) := by decide +kernel
theorem dX8_changes_106 : decode cX8_changes 106 = .ok (.iload 6, 2) := by decide +kernel
theorem dX8_changes_108 : decode cX8_changes 108 = .ok (.imul, 1) := by decide +kernel
theorem dX8_changes_109 : decode cX8_changes 109 = .ok (.iload 7, 2) := by decide +kernel
theorem dX8_changes_111 : decode cX8_changes 111 = .ok (.iadd, 1) := by decide +kernel
theorem dX8_changes_112 : decode cX8_changes 112 = .ok (.iaload, 1) := by decide +kernel
theorem dX8_changes_113 : decode cX8_changes 113 = .ok (.istore 8, 2) := by decide +kernel
theorem dX8_changes_115 : decode cX8_changes 115 = .ok (.iload 6, 2) := by decide +kernel
theorem dX8_changes_117 : decode cX8_changes 117 = .ok (.iload 4, 2) := by decide +kernel
theorem dX8_changes_119 : decode cX8_changes 119 = .ok (.if_icmp .ge 14, 3) := by decide +kernel
theorem dX8_changes_122 : decode cX8_changes 122 = .ok (.iload 7, 2) := by decide +kernel
theorem dX8_changes_124 : decode cX8_changes 124 = .ok (.iload 5, 2) := by decide +kernel
theorem dX8_changes_126 : decode cX8_changes 126 = .ok (.if_icmp .ge 7, 3) := by decide +kernel
theorem dX8_changes_129 : decode cX8_changes 129 = .ok (.iconst 1, 1) := by decide +kernel
theorem dX8_changes_130 : decode cX8_changes 130 = .ok (.goto 4, 3) := by decide +kernel
theorem dX8_changes_133 : decode cX8_changes 133 = .ok (.iconst 0, 1) := by decide +kernel
theorem dX8_changes_134 : decode cX8_changes 134 = .ok (.istore 9, 2) := by decide +kernel
theorem dX8_changes_136 : decode cX8_changes 136 = .ok (.iload 9, 2) := by decide +kernel
theorem dX8_changes_138 : decode cX8_changes 138 = .ok (.ifCond .eq 52, 3) := by decide +kernel
theorem dX8_changes_141 : decode cX8_changes 141 = .ok (.aload_n 0, 1) := by decide +kernel
theorem dX8_changes_142 : decode cX8_changes 142 = .ok (.iload_n 3, 1) := by decide +kernel
theorem dX8_changes_143 : decode cX8_changes 143 = .ok (.iload 6, 2) := by decide +kernel
theorem dX8_changes_145 : decode cX8_changes 145 = .ok (.invokevirtual 196, 3) := by decide +kernel
theorem dX8_changes_148 : decode cX8_changes 148 = .ok (.aload_n 0, 1) := by decide +kernel
theorem dX8_changes_149 : decode cX8_changes 149 = .ok (.iload_n 3, 1) := by decide +kernel
theorem dX8_changes_150 : decode cX8_changes 150 = .ok (.iload 7, 2) := by decide +kernel
theorem dX8_changes_152 : decode cX8_changes 152 = .ok (.invokevirtual 199, 3) := by decide +kernel
theorem dX8_changes_155 : decode cX8_changes 155 = .ok (.if_icmp .ne 35, 3) := by decide +kernel
theorem dX8_changes_158 : decode cX8_changes 158 = .ok (.aload_n 0, 1) := by decide +kernel
theorem dX8_changes_159 : decode cX8_changes 159 = .ok (.getfield 68, 3) := by decide +kernel
theorem dX8_changes_162 : decode cX8_changes 162 = .ok (.sipush 201, 3) := by decide +kernel
theorem dX8_changes_165 : decode cX8_changes 165 = .ok (.iload 6, 2) := by decide +kernel
theorem dX8_changes_167 : decode cX8_changes 167 = .ok (.iconst 1, 1) := by decide +kernel
theorem dX8_changes_168 : decode cX8_changes 168 = .ok (.iadd, 1) := by decide +kernel
theorem dX8_changes_169 : decode cX8_changes 169 = .ok (.imul, 1) := by decide +kernel
theorem dX8_changes_170 : decode cX8_changes 170 = .ok (.iload 7, 2) := by decide +kernel
theorem dX8_changes_172 : decode cX8_changes 172 = .ok (.iadd, 1) := by decide +kernel
theorem dX8_changes_173 : decode cX8_changes 173 = .ok (.iconst 1, 1) := by decide +kernel
theorem dX8_changes_174 : decode cX8_changes 174 = .ok (.iadd, 1) := by decide +kernel
theorem dX8_changes_175 : decode cX8_changes 175 = .ok (.iaload, 1) := by decide +kernel
theorem dX8_changes_176 : decode cX8_changes 176 = .ok (.iload 8, 2) := by decide +kernel
theorem dX8_changes_178 : decode cX8_changes 178 = .ok (.if_icmp .ne 12, 3) := by decide +kernel
theorem dX8_changes_181 : decode cX8_changes 181 = .ok (.iinc 6 1, 3) := by decide +kernel
theorem dX8_changes_184 : decode cX8_changes 184 = .ok (.iinc 7 1, 3) := by decide +kernel
theorem dX8_changes_187 : decode cX8_changes 187 = .ok (.goto 117, 3) := by decide +kernel
theorem dX8_changes_190 : decode cX8_changes 190 = .ok (.iload 9, 2) := by decide +kernel
theorem dX8_changes_192 : decode cX8_changes 192 = .ok (.ifCond .eq 51, 3) := by decide +kernel
theorem dX8_changes_195 : decode cX8_changes 195 = .ok (.aload_n 0, 1) := by decide +kernel
theorem dX8_changes_196 : decode cX8_changes 196 = .ok (.getfield 68, 3) := by decide +kernel
theorem dX8_changes_199 : decode cX8_changes 199 = .ok (.sipush 201, 3) := by decide +kernel
theorem dX8_changes_202 : decode cX8_changes 202 = .ok (.iload 6, 2) := by decide +kernel
theorem dX8_changes_204 : decode cX8_changes 204 = .ok (.iconst 1, 1) := by decide +kernel
theorem dX8_changes_205 : decode cX8_changes 205 = .ok (.iadd, 1) := by decide +kernel
theorem dX8_changes_206 : decode cX8_changes 206 = .ok (.imul, 1) := by decide +kernel
theorem dX8_changes_207 : decode cX8_changes 207 = .ok (.iload 7, 2) := by decide +kernel
theorem dX8_changes_209 : decode cX8_changes 209 = .ok (.iadd, 1) := by decide +kernel
theorem dX8_changes_210 : decode cX8_changes 210 = .ok (.iconst 1, 1) := by decide +kernel
theorem dX8_changes_211 : decode cX8_changes 211 = .ok (.iadd, 1) := by decide +kernel
theorem dX8_changes_212 : decode cX8_changes 212 = .ok (.iaload, 1) := by decide +kernel
theorem dX8_changes_213 : decode cX8_changes 213 = .ok (.iconst 1, 1) := by decide +kernel
theorem dX8_changes_214 : decode cX8_changes 214 = .ok (.iadd, 1) := by decide +kernel
theorem dX8_changes_215 : decode cX8_changes 215 = .ok (.iload 8, 2) := by decide +kernel
theorem dX8_changes_217 : decode cX8_changes 217 = .ok (.if_icmp .ne 26, 3) := by decide +kernel
theorem dX8_changes_220 : decode cX8_changes 220 = .ok (.aload_n 0, 1) := by decide +kernel
theorem dX8_changes_221 : decode cX8_changes 221 = .ok (.iconst 0, 1) := by decide +kernel
theorem dX8_changes_222 : decode cX8_changes 222 = .ok (.iload 6, 2) := by decide +kernel
theorem dX8_changes_224 : decode cX8_changes 224 = .ok (.aload_n 0, 1) := by decide +kernel
theorem dX8_changes_225 : decode cX8_changes 225 = .ok (.iload_n 3, 1) := by decide +kernel
theorem dX8_changes_226 : decode cX8_changes 226 = .ok (.iload 7, 2) := by decide +kernel
theorem dX8_changes_228 : decode cX8_changes 228 = .ok (.invokevirtual 199, 3) := by decide +kernel
theorem dX8_changes_231 : decode cX8_changes 231 = .ok (.invokevirtual 208, 3) := by decide +kernel
theorem dX8_changes_234 : decode cX8_changes 234 = .ok (.iinc 6 1, 3) := by decide +kernel
theorem dX8_changes_237 : decode cX8_changes 237 = .ok (.iinc 7 1, 3) := by decide +kernel
theorem dX8_changes_240 : decode cX8_changes 240 = .ok (.goto 64, 3) := by decide +kernel
theorem dX8_changes_243 : decode cX8_changes 243 = .ok (.iload 6, 2) := by decide +kernel
theorem dX8_changes_245 : decode cX8_changes 245 = .ok (.iload 4, 2) := by decide +kernel
theorem dX8_changes_247 : decode cX8_changes 247 = .ok (.if_icmp .ge 40, 3) := by decide +kernel
theorem dX8_changes_250 : decode cX8_changes 250 = .ok (.aload_n 0, 1) := by decide +kernel
theorem dX8_changes_251 : decode cX8_changes 251 = .ok (.getfield 68, 3) := by decide +kernel
theorem dX8_changes_254 : decode cX8_changes 254 = .ok (.sipush 201, 3) := by decide +kernel
theorem dX8_changes_257 : decode cX8_changes 257 = .ok (.iload 6, 2) := by decide +kernel
theorem dX8_changes_259 : decode cX8_changes 259 = .ok (.iconst 1, 1) := by decide +kernel
theorem dX8_changes_260 : decode cX8_changes 260 = .ok (.iadd, 1) := by decide +kernel
theorem dX8_changes_261 : decode cX8_changes 261 = .ok (.imul, 1) := by decide +kernel
theorem dX8_changes_262 : decode cX8_changes 262 = .ok (.iload 7, 2) := by decide +kernel
theorem dX8_changes_264 : decode cX8_changes 264 = .ok (.iadd, 1) := by decide +kernel
theorem dX8_changes_265 : decode cX8_changes 265 = .ok (.iaload, 1) := by decide +kernel
theorem dX8_changes_266 : decode cX8_changes 266 = .ok (.iconst 1, 1) := by decide +kernel
theorem dX8_changes_267 : decode cX8_changes 267 = .ok (.iadd, 1) := by decide +kernel
theorem dX8_changes_268 : decode cX8_changes 268 = .ok (.iload 8, 2) := by decide +kernel
theorem dX8_changes_270 : decode cX8_changes 270 = .ok (.if_icmp .ne 17, 3) := by decide +kernel
theorem dX8_changes_273 : decode cX8_changes 273 = .ok (.aload_n 0, 1) := by decide +kernel
theorem dX8_changes_274 : decode cX8_changes 274 = .ok (.iconst 1, 1) := by decide +kernel
theorem dX8_changes_275 : decode cX8_changes 275 = .ok (.iload 6, 2) := by decide +kernel
theorem dX8_changes_277 : decode cX8_changes 277 = .ok (.iconst 0, 1) := by decide +kernel
theorem dX8_changes_278 : decode cX8_changes 278 = .ok (.invokevirtual 208, 3) := by decide +kernel
theorem dX8_changes_281 : decode cX8_changes 281 = .ok (.iinc 6 1, 3) := by decide +kernel
theorem dX8_changes_284 : decode cX8_changes 284 = .ok (.goto 20, 3) := by decide +kernel
theorem dX8_changes_287 : decode cX8_changes 287 = .ok (.aload_n 0, 1) := by decide +kernel
theorem dX8_changes_288 : decode cX8_changes 288 = .ok (.iconst 2, 1) := by decide +kernel
theorem dX8_changes_289 : decode cX8_changes 289 = .ok (.iload 6, 2) := by decide +kernel
theorem dX8_changes_291 : decode cX8_changes 291 = .ok (.aload_n 0, 1) := by decide +kernel
theorem dX8_changes_292 : decode cX8_changes 292 = .ok (.iload_n 3, 1) := by decide +kernel
theorem dX8_changes_293 : decode cX8_changes 293 = .ok (.iload 7, 2) := by decide +kernel
theorem dX8_changes_295 : decode cX8_changes 295 = .ok (.invokevirtual 199, 3) := by decide +kernel
theorem dX8_changes_298 : decode cX8_changes 298 = .ok (.invokevirtual 208, 3) := by decide +kernel
theorem dX8_changes_301 : decode cX8_changes 301 = .ok (.iinc 7 1, 3) := by decide +kernel
theorem dX8_changes_304 : decode cX8_changes 304 = .ok (.goto (-219), 3) := by decide +kernel
theorem dX8_changes_307 : decode cX8_changes 307 = .ok (.aload_n 0, 1) := by decide +kernel
theorem dX8_changes_308 : decode cX8_changes 308 = .ok (.getfield 202, 3) := by decide +kernel
theorem dX8_changes_311 : decode cX8_changes 311 = .ok (.ireturn, 1) := by decide +kernel
theorem dX8_change_0 : decode cX8_change 0 = .ok (.iload_n 1, 1) := by decide +kernel
theorem dX8_change_1 : decode cX8_change 1 = .ok (.iconst 0, 1) := by decide +kernel
theorem dX8_change_2 : decode cX8_change 2 = .ok (.aload_n 0, 1) := by decide +kernel
theorem dX8_change_3 : decode cX8_change 3 = .ok (.getfield 202, 3) := by decide +kernel
theorem dX8_change_6 : decode cX8_change 6 = .ok (.iconst 1, 1) := by decide +kernel
theorem dX8_change_7 : decode cX8_change 7 = .ok (.isub, 1) := by decide +kernel
theorem dX8_change_8 : decode cX8_change 8 = .ok (.invokestatic 99, 3) := by decide +kernel
theorem dX8_change_11 : decode cX8_change 11 = .ok (.ifCond .eq 12, 3) := by decide +kernel
theorem dX8_change_14 : decode cX8_change 14 = .ok (.iload_n 2, 1) := by decide +kernel
theorem dX8_change_15 : decode cX8_change 15 = .ok (.iconst 0, 1) := by decide +kernel
theorem dX8_change_16 : decode cX8_change 16 = .ok (.iconst 2, 1) := by decide +kernel
theorem dX8_change_17 : decode cX8_change 17 = .ok (.invokestatic 99, 3) := by decide +kernel
theorem dX8_change_20 : decode cX8_change 20 = .ok (.ifCond .ne 5, 3) := by decide +kernel
theorem dX8_change_23 : decode cX8_change 23 = .ok (.iconst (-1), 1) := by decide +kernel
theorem dX8_change_24 : decode cX8_change 24 = .ok (.ireturn, 1) := by decide +kernel
theorem dX8_change_25 : decode cX8_change 25 = .ok (.iload_n 2, 1) := by decide +kernel
theorem dX8_change_26 : decode cX8_change 26 = .ok (.ifCond .ne 12, 3) := by decide +kernel
theorem dX8_change_29 : decode cX8_change 29 = .ok (.aload_n 0, 1) := by decide +kernel
theorem dX8_change_30 : decode cX8_change 30 = .ok (.getfield 71, 3) := by decide +kernel
theorem dX8_change_33 : decode cX8_change 33 = .ok (.iload_n 1, 1) := by decide +kernel
theorem dX8_change_34 : decode cX8_change 34 = .ok (.iaload, 1) := by decide +kernel
theorem dX8_change_35 : decode cX8_change 35 = .ok (.goto 23, 3) := by decide +kernel
theorem dX8_change_38 : decode cX8_change 38 = .ok (.iload_n 2, 1) := by decide +kernel
theorem dX8_change_39 : decode cX8_change 39 = .ok (.iconst 1, 1) := by decide +kernel
theorem dX8_change_40 : decode cX8_change 40 = .ok (.if_icmp .ne 12, 3) := by decide +kernel
theorem dX8_change_43 : decode cX8_change 43 = .ok (.aload_n 0, 1) := by decide +kernel
theorem dX8_change_44 : decode cX8_change 44 = .ok (.getfield 74, 3) := by decide +kernel
theorem dX8_change_47 : decode cX8_change 47 = .ok (.iload_n 1, 1) := by decide +kernel
theorem dX8_change_48 : decode cX8_change 48 = .ok (.iaload, 1) := by decide +kernel
theorem dX8_change_49 : decode cX8_change 49 = .ok (.goto 9, 3) := by decide +kernel
theorem dX8_change_52 : decode cX8_change 52 = .ok (.aload_n 0, 1) := by decide +kernel
theorem dX8_change_53 : decode cX8_change 53 = .ok (.getfield 77, 3) := by decide +kernel
theorem dX8_change_56 : decode cX8_change 56 = .ok (.iload_n 1, 1) := by decide +kernel
theorem dX8_change_57 : decode cX8_change 57 = .ok (.iaload, 1) := by decide +kernel
theorem dX8_change_58 : decode cX8_change 58 = .ok (.ireturn, 1) := by decide +kernel
theorem dX8_cause_0 : decode cX8_cause 0 = .ok (.iload_n 1, 1) := by decide +kernel
theorem dX8_cause_1 : decode cX8_cause 1 = .ok (.invokestatic 120, 3) := by decide +kernel
theorem dX8_cause_4 : decode cX8_cause 4 = .ok (.ifCond .eq 18, 3) := by decide +kernel
theorem dX8_cause_7 : decode cX8_cause 7 = .ok (.iload_n 2, 1) := by decide +kernel
theorem dX8_cause_8 : decode cX8_cause 8 = .ok (.invokestatic 120, 3) := by decide +kernel
theorem dX8_cause_11 : decode cX8_cause 11 = .ok (.ifCond .eq 11, 3) := by decide +kernel
theorem dX8_cause_14 : decode cX8_cause 14 = .ok (.aload_n 0, 1) := by decide +kernel
theorem dX8_cause_15 : decode cX8_cause 15 = .ok (.iload_n 3, 1) := by decide +kernel
theorem dX8_cause_16 : decode cX8_cause 16 = .ok (.invokevirtual 126, 3) := by decide +kernel
theorem dX8_cause_19 : decode cX8_cause 19 = .ok (.ifCond .ne 5, 3) := by decide +kernel
theorem dX8_cause_22 : decode cX8_cause 22 = .ok (.iconst (-1), 1) := by decide +kernel
theorem dX8_cause_23 : decode cX8_cause 23 = .ok (.ireturn, 1) := by decide +kernel
theorem dX8_cause_24 : decode cX8_cause 24 = .ok (.aload_n 0, 1) := by decide +kernel
theorem dX8_cause_25 : decode cX8_cause 25 = .ok (.iload_n 1, 1) := by decide +kernel
theorem dX8_cause_26 : decode cX8_cause 26 = .ok (.iload_n 2, 1) := by decide +kernel
theorem dX8_cause_27 : decode cX8_cause 27 = .ok (.iload_n 3, 1) := by decide +kernel
theorem dX8_cause_28 : decode cX8_cause 28 = .ok (.invokevirtual 189, 3) := by decide +kernel
theorem dX8_cause_31 : decode cX8_cause 31 = .ok (.aload_n 0, 1) := by decide +kernel
theorem dX8_cause_32 : decode cX8_cause 32 = .ok (.iload_n 3, 1) := by decide +kernel
theorem dX8_cause_33 : decode cX8_cause 33 = .ok (.invokevirtual 193, 3) := by decide +kernel
theorem dX8_cause_36 : decode cX8_cause 36 = .ok (.ifCond .eq 6, 3) := by decide +kernel
theorem dX8_cause_39 : decode cX8_cause 39 = .ok (.bipush (-2), 2) := by decide +kernel
theorem dX8_cause_41 : decode cX8_cause 41 = .ok (.ireturn, 1) := by decide +kernel
theorem dX8_cause_42 : decode cX8_cause 42 = .ok (.aload_n 0, 1) := by decide +kernel
theorem dX8_cause_43 : decode cX8_cause 43 = .ok (.iload_n 3, 1) := by decide +kernel
theorem dX8_cause_44 : decode cX8_cause 44 = .ok (.invokevirtual 172, 3) := by decide +kernel
theorem dX8_cause_47 : decode cX8_cause 47 = .ok (.istore 4, 2) := by decide +kernel
theorem dX8_cause_49 : decode cX8_cause 49 = .ok (.iconst 0, 1) := by decide +kernel
theorem dX8_cause_50 : decode cX8_cause 50 = .ok (.istore 5, 2) := by decide +kernel
theorem dX8_cause_52 : decode cX8_cause 52 = .ok (.iload 5, 2) := by decide +kernel
theorem dX8_cause_54 : decode cX8_cause 54 = .ok (.iload_n 3, 1) := by decide +kernel
theorem dX8_cause_55 : decode cX8_cause 55 = .ok (.if_icmp .gt 114, 3) := by decide +kernel
theorem dX8_cause_58 : decode cX8_cause 58 = .ok (.iload 4, 2) := by decide +kernel
theorem dX8_cause_60 : decode cX8_cause 60 = .ok (.iload 5, 2) := by decide +kernel
theorem dX8_cause_62 : decode cX8_cause 62 = .ok (.ishr, 1) := by decide +kernel
theorem dX8_cause_63 : decode cX8_cause 63 = .ok (.iconst 1, 1) := by decide +kernel
theorem dX8_cause_64 : decode cX8_cause 64 = .ok (.iand, 1) := by decide +kernel
theorem dX8_cause_65 : decode cX8_cause 65 = .ok (.ifCond .eq 98, 3) := by decide +kernel
theorem dX8_cause_68 : decode cX8_cause 68 = .ok (.aload_n 0, 1) := by decide +kernel
theorem dX8_cause_69 : decode cX8_cause 69 = .ok (.iload 5, 2) := by decide +kernel
theorem dX8_cause_71 : decode cX8_cause 71 = .ok (.invokevirtual 193, 3) := by decide +kernel
theorem dX8_cause_74 : decode cX8_cause 74 = .ok (.ifCond .eq 6, 3) := by decide +kernel
theorem dX8_cause_77 : decode cX8_cause 77 = .ok (.goto 86, 3) := by decide +kernel
theorem dX8_cause_80 : decode cX8_cause 80 = .ok (.iconst 1, 1) := by decide +kernel
theorem dX8_cause_81 : decode cX8_cause 81 = .ok (.istore 6, 2) := by decide +kernel
theorem dX8_cause_83 : decode cX8_cause 83 = .ok (.iconst 0, 1) := by decide +kernel
theorem dX8_cause_84 : decode cX8_cause 84 = .ok (.istore 7, 2) := by decide +kernel
theorem dX8_cause_86 : decode cX8_cause 86 = .ok (.iload 7, 2) := by decide +kernel
theorem dX8_cause_88 : decode cX8_cause 88 = .ok (.aload_n 0, 1) := by decide +kernel
theorem dX8_cause_89 : decode cX8_cause 89 = .ok (.getfield 35, 3) := by decide +kernel
theorem dX8_cause_92 : decode cX8_cause 92 = .ok (.iload 5, 2) := by decide +kernel
theorem dX8_cause_94 : decode cX8_cause 94 = .ok (.iaload, 1) := by decide +kernel
theorem dX8_cause_95 : decode cX8_cause 95 = .ok (.if_icmp .ge 60, 3) := by decide +kernel
theorem dX8_cause_98 : decode cX8_cause 98 = .ok (.iload 6, 2) := by decide +kernel
theorem dX8_cause_100 : decode cX8_cause 100 = .ok (.ifCond .eq 46, 3) := by decide +kernel
theorem dX8_cause_103 : decode cX8_cause 103 = .ok (.aload_n 0, 1) := by decide +kernel
theorem dX8_cause_104 : decode cX8_cause 104 = .ok (.getfield 38, 3) := by decide +kernel
theorem dX8_cause_107 : decode cX8_cause 107 = .ok (.iconst 4, 1) := by decide +kernel
theorem dX8_cause_108 : decode cX8_cause 108 = .ok (.iload 5, 2) := by decide +kernel
theorem dX8_cause_110 : decode cX8_cause 110 = .ok (.imul, 1) := by decide +kernel
theorem dX8_cause_111 : decode cX8_cause 111 = .ok (.iload 7, 2) := by decide +kernel
theorem dX8_cause_113 : decode cX8_cause 113 = .ok (.iadd, 1) := by decide +kernel
theorem dX8_cause_114 : decode cX8_cause 114 = .ok (.iaload, 1) := by decide +kernel
theorem dX8_cause_115 : decode cX8_cause 115 = .ok (.bipush 100, 2) := by decide +kernel
theorem dX8_cause_117 : decode cX8_cause 117 = .ok (.if_icmp .lt 25, 3) := by decide +kernel
theorem dX8_cause_120 : decode cX8_cause 120 = .ok (.aload_n 0, 1) := by decide +kernel
theorem dX8_cause_121 : decode cX8_cause 121 = .ok (.aload_n 0, 1) := by decide +kernel
theorem dX8_cause_122 : decode cX8_cause 122 = .ok (.getfield 38, 3) := by decide +kernel
theorem dX8_cause_125 : decode cX8_cause 125 = .ok (.iconst 4, 1) := by decide +kernel
theorem dX8_cause_126 : decode cX8_cause 126 = .ok (.iload 5, 2) := by decide +kernel
theorem dX8_cause_128 : decode cX8_cause 128 = .ok (.imul, 1) := by decide +kernel
theorem dX8_cause_129 : decode cX8_cause 129 = .ok (.iload 7, 2) := by decide +kernel
theorem dX8_cause_131 : decode cX8_cause 131 = .ok (.iadd, 1) := by decide +kernel
theorem dX8_cause_132 : decode cX8_cause 132 = .ok (.iaload, 1) := by decide +kernel
theorem dX8_cause_133 : decode cX8_cause 133 = .ok (.bipush 100, 2) := by decide +kernel
theorem dX8_cause_135 : decode cX8_cause 135 = .ok (.isub, 1) := by decide +kernel
theorem dX8_cause_136 : decode cX8_cause 136 = .ok (.invokevirtual 193, 3) := by decide +kernel
theorem dX8_cause_139 : decode cX8_cause 139 = .ok (.ifCond .eq 7, 3) := by decide +kernel
theorem dX8_cause_142 : decode cX8_cause 142 = .ok (.iconst 1, 1) := by decide +kernel
theorem dX8_cause_143 : decode cX8_cause 143 = .ok (.goto 4, 3) := by decide +kernel
theorem dX8_cause_146 : decode cX8_cause 146 = .ok (.iconst 0, 1) := by decide +kernel
theorem dX8_cause_147 : decode cX8_cause 147 = .ok (.istore 6, 2) := by decide +kernel
theorem dX8_cause_149 : decode cX8_cause 149 = .ok (.iinc 7 1, 3) := by decide +kernel
theorem dX8_cause_152 : decode cX8_cause 152 = .ok (.goto (-66), 3) := by decide +kernel
theorem dX8_cause_155 : decode cX8_cause 155 = .ok (.iload 6, 2) := by decide +kernel
theorem dX8_cause_157 : decode cX8_cause 157 = .ok (.ifCond .eq 6, 3) := by decide +kernel
theorem dX8_cause_160 : decode cX8_cause 160 = .ok (.iload 5, 2) := by decide +kernel
theorem dX8_cause_162 : decode cX8_cause 162 = .ok (.ireturn, 1) := by decide +kernel
theorem dX8_cause_163 : decode cX8_cause 163 = .ok (.iinc 5 1, 3) := by decide +kernel
theorem dX8_cause_166 : decode cX8_cause 166 = .ok (.goto (-114), 3) := by decide +kernel
theorem dX8_cause_169 : decode cX8_cause 169 = .ok (.bipush (-2), 2) := by decide +kernel
theorem dX8_cause_171 : decode cX8_cause 171 = .ok (.ireturn, 1) := by decide +kernel
theorem dX8_fix_0 : decode cX8_fix 0 = .ok (.iload_n 1, 1) := by decide +kernel
theorem dX8_fix_1 : decode cX8_fix 1 = .ok (.invokestatic 120, 3) := by decide +kernel
theorem dX8_fix_4 : decode cX8_fix 4 = .ok (.ifCond .eq 18, 3) := by decide +kernel
theorem dX8_fix_7 : decode cX8_fix 7 = .ok (.iload_n 2, 1) := by decide +kernel
theorem dX8_fix_8 : decode cX8_fix 8 = .ok (.invokestatic 120, 3) := by decide +kernel
theorem dX8_fix_11 : decode cX8_fix 11 = .ok (.ifCond .eq 11, 3) := by decide +kernel
theorem dX8_fix_14 : decode cX8_fix 14 = .ok (.aload_n 0, 1) := by decide +kernel
theorem dX8_fix_15 : decode cX8_fix 15 = .ok (.iload_n 3, 1) := by decide +kernel
theorem dX8_fix_16 : decode cX8_fix 16 = .ok (.invokevirtual 126, 3) := by decide +kernel
theorem dX8_fix_19 : decode cX8_fix 19 = .ok (.ifCond .ne 5, 3) := by decide +kernel
theorem dX8_fix_22 : decode cX8_fix 22 = .ok (.iconst (-1), 1) := by decide +kernel
theorem dX8_fix_23 : decode cX8_fix 23 = .ok (.ireturn, 1) := by decide +kernel
theorem dX8_fix_24 : decode cX8_fix 24 = .ok (.aload_n 0, 1) := by decide +kernel
theorem dX8_fix_25 : decode cX8_fix 25 = .ok (.iload_n 1, 1) := by decide +kernel
theorem dX8_fix_26 : decode cX8_fix 26 = .ok (.invokevirtual 166, 3) := by decide +kernel
theorem dX8_fix_29 : decode cX8_fix 29 = .ok (.aload_n 0, 1) := by decide +kernel
theorem dX8_fix_30 : decode cX8_fix 30 = .ok (.iconst 0, 1) := by decide +kernel
theorem dX8_fix_31 : decode cX8_fix 31 = .ok (.iload_n 3, 1) := by decide +kernel
theorem dX8_fix_32 : decode cX8_fix 32 = .ok (.invokevirtual 169, 3) := by decide +kernel
theorem dX8_fix_35 : decode cX8_fix 35 = .ok (.iconst (-1), 1) := by decide +kernel
theorem dX8_fix_36 : decode cX8_fix 36 = .ok (.istore 4, 2) := by decide +kernel
theorem dX8_fix_38 : decode cX8_fix 38 = .ok (.iconst 0, 1) := by decide +kernel
theorem dX8_fix_39 : decode cX8_fix 39 = .ok (.istore 5, 2) := by decide +kernel
theorem dX8_fix_41 : decode cX8_fix 41 = .ok (.iload 5, 2) := by decide +kernel
theorem dX8_fix_43 : decode cX8_fix 43 = .ok (.sipush 256, 3) := by decide +kernel
theorem dX8_fix_46 : decode cX8_fix 46 = .ok (.if_icmp .ge 98, 3) := by decide +kernel
theorem dX8_fix_49 : decode cX8_fix 49 = .ok (.iload 4, 2) := by decide +kernel
theorem dX8_fix_51 : decode cX8_fix 51 = .ok (.ifCond .lt 19, 3) := by decide +kernel
theorem dX8_fix_54 : decode cX8_fix 54 = .ok (.iload 5, 2) := by decide +kernel
theorem dX8_fix_56 : decode cX8_fix 56 = .ok (.invokestatic 184, 3) := by decide +kernel
theorem dX8_fix_59 : decode cX8_fix 59 = .ok (.iload 4, 2) := by decide +kernel
theorem dX8_fix_61 : decode cX8_fix 61 = .ok (.invokestatic 184, 3) := by decide +kernel
theorem dX8_fix_64 : decode cX8_fix 64 = .ok (.if_icmp .lt 6, 3) := by decide +kernel
theorem dX8_fix_67 : decode cX8_fix 67 = .ok (.goto 71, 3) := by decide +kernel
theorem dX8_fix_70 : decode cX8_fix 70 = .ok (.iconst 0, 1) := by decide +kernel
theorem dX8_fix_71 : decode cX8_fix 71 = .ok (.istore 6, 2) := by decide +kernel
theorem dX8_fix_73 : decode cX8_fix 73 = .ok (.iload 6, 2) := by decide +kernel
theorem dX8_fix_75 : decode cX8_fix 75 = .ok (.bipush 8, 2) := by decide +kernel
theorem dX8_fix_77 : decode cX8_fix 77 = .ok (.if_icmp .ge 43, 3) := by decide +kernel
theorem dX8_fix_80 : decode cX8_fix 80 = .ok (.aload_n 0, 1) := by decide +kernel
theorem dX8_fix_81 : decode cX8_fix 81 = .ok (.getfield 41, 3) := by decide +kernel
theorem dX8_fix_84 : decode cX8_fix 84 = .ok (.iload 6, 2) := by decide +kernel
theorem dX8_fix_86 : decode cX8_fix 86 = .ok (.aload_n 0, 1) := by decide +kernel
theorem dX8_fix_87 : decode cX8_fix 87 = .ok (.getfield 23, 3) := by decide +kernel
theorem dX8_fix_90 : decode cX8_fix 90 = .ok (.bipush 8, 2) := by decide +kernel
theorem dX8_fix_92 : decode cX8_fix 92 = .ok (.iload 5, 2) := by decide +kernel
theorem dX8_fix_94 : decode cX8_fix 94 = .ok (.iload 6, 2) := by decide +kernel
theorem dX8_fix_96 : decode cX8_fix 96 = .ok (.ishr, 1) := by decide +kernel
theorem dX8_fix_97 : decode cX8_fix 97 = .ok (.iconst 1, 1) := by decide +kernel
theorem dX8_fix_98 : decode cX8_fix 98 = .ok (.iand, 1) := by decide +kernel
theorem dX8_fix_99 : decode cX8_fix 99 = .ok (.iconst 1, 1) := by decide +kernel
theorem dX8_fix_100 : decode cX8_fix 100 = .ok (.if_icmp .ne 7, 3) := by decide +kernel
theorem dX8_fix_103 : decode cX8_fix 103 = .ok (.iload_n 1, 1) := by decide +kernel
theorem dX8_fix_104 : decode cX8_fix 104 = .ok (.goto 4, 3) := by decide +kernel
theorem dX8_fix_107 : decode cX8_fix 107 = .ok (.iload_n 2, 1) := by decide +kernel
theorem dX8_fix_108 : decode cX8_fix 108 = .ok (.imul, 1) := by decide +kernel
theorem dX8_fix_109 : decode cX8_fix 109 = .ok (.iload 6, 2) := by decide +kernel
theorem dX8_fix_111 : decode cX8_fix 111 = .ok (.iadd, 1) := by decide +kernel
theorem dX8_fix_112 : decode cX8_fix 112 = .ok (.iaload, 1) := by decide +kernel
theorem dX8_fix_113 : decode cX8_fix 113 = .ok (.iastore, 1) := by decide +kernel
theorem dX8_fix_114 : decode cX8_fix 114 = .ok (.iinc 6 1, 3) := by decide +kernel
theorem dX8_fix_117 : decode cX8_fix 117 = .ok (.goto (-44), 3) := by decide +kernel
theorem dX8_fix_120 : decode cX8_fix 120 = .ok (.aload_n 0, 1) := by decide +kernel
theorem dX8_fix_121 : decode cX8_fix 121 = .ok (.iconst 1, 1) := by decide +kernel
theorem dX8_fix_122 : decode cX8_fix 122 = .ok (.iload_n 3, 1) := by decide +kernel
theorem dX8_fix_123 : decode cX8_fix 123 = .ok (.invokevirtual 169, 3) := by decide +kernel
theorem dX8_fix_126 : decode cX8_fix 126 = .ok (.aload_n 0, 1) := by decide +kernel
theorem dX8_fix_127 : decode cX8_fix 127 = .ok (.iload_n 3, 1) := by decide +kernel
theorem dX8_fix_128 : decode cX8_fix 128 = .ok (.invokevirtual 193, 3) := by decide +kernel
theorem dX8_fix_131 : decode cX8_fix 131 = .ok (.ifCond .eq 7, 3) := by decide +kernel
theorem dX8_fix_134 : decode cX8_fix 134 = .ok (.iload 5, 2) := by decide +kernel
theorem dX8_fix_136 : decode cX8_fix 136 = .ok (.istore 4, 2) := by decide +kernel
theorem dX8_fix_138 : decode cX8_fix 138 = .ok (.iinc 5 1, 3) := by decide +kernel
theorem dX8_fix_141 : decode cX8_fix 141 = .ok (.goto (-100), 3) := by decide +kernel
theorem dX8_fix_144 : decode cX8_fix 144 = .ok (.iload 4, 2) := by decide +kernel
theorem dX8_fix_146 : decode cX8_fix 146 = .ok (.ireturn, 1) := by decide +kernel
theorem dX8_breaking_0 : decode cX8_breaking 0 = .ok (.aload_n 0, 1) := by decide +kernel
theorem dX8_breaking_1 : decode cX8_breaking 1 = .ok (.iload_n 1, 1) := by decide +kernel
theorem dX8_breaking_2 : decode cX8_breaking 2 = .ok (.invokevirtual 166, 3) := by decide +kernel
theorem dX8_breaking_5 : decode cX8_breaking 5 = .ok (.aload_n 0, 1) := by decide +kernel
theorem dX8_breaking_6 : decode cX8_breaking 6 = .ok (.iconst 0, 1) := by decide +kernel
theorem dX8_breaking_7 : decode cX8_breaking 7 = .ok (.iload_n 2, 1) := by decide +kernel
theorem dX8_breaking_8 : decode cX8_breaking 8 = .ok (.invokevirtual 169, 3) := by decide +kernel
theorem dX8_breaking_11 : decode cX8_breaking 11 = .ok (.iconst 0, 1) := by decide +kernel
theorem dX8_breaking_12 : decode cX8_breaking 12 = .ok (.istore 5, 2) := by decide +kernel
theorem dX8_breaking_14 : decode cX8_breaking 14 = .ok (.iload 5, 2) := by decide +kernel
theorem dX8_breaking_16 : decode cX8_breaking 16 = .ok (.iload 4, 2) := by decide +kernel
theorem dX8_breaking_18 : decode cX8_breaking 18 = .ok (.if_icmp .gt 34, 3) := by decide +kernel
theorem dX8_breaking_21 : decode cX8_breaking 21 = .ok (.aload_n 0, 1) := by decide +kernel
theorem dX8_breaking_22 : decode cX8_breaking 22 = .ok (.getfield 41, 3) := by decide +kernel
theorem dX8_breaking_25 : decode cX8_breaking 25 = .ok (.iload_n 3, 1) := by decide +kernel
theorem dX8_breaking_26 : decode cX8_breaking 26 = .ok (.iload 5, 2) := by decide +kernel
theorem dX8_breaking_28 : decode cX8_breaking 28 = .ok (.iastore, 1) := by decide +kernel
theorem dX8_breaking_29 : decode cX8_breaking 29 = .ok (.aload_n 0, 1) := by decide +kernel
theorem dX8_breaking_30 : decode cX8_breaking 30 = .ok (.iconst 1, 1) := by decide +kernel
theorem dX8_breaking_31 : decode cX8_breaking 31 = .ok (.iload_n 2, 1) := by decide +kernel
theorem dX8_breaking_32 : decode cX8_breaking 32 = .ok (.invokevirtual 169, 3) := by decide +kernel
theorem dX8_breaking_35 : decode cX8_breaking 35 = .ok (.aload_n 0, 1) := by decide +kernel
theorem dX8_breaking_36 : decode cX8_breaking 36 = .ok (.iload_n 2, 1) := by decide +kernel
theorem dX8_breaking_37 : decode cX8_breaking 37 = .ok (.invokevirtual 193, 3) := by decide +kernel
theorem dX8_breaking_40 : decode cX8_breaking 40 = .ok (.ifCond .ne 6, 3) := by decide +kernel
theorem dX8_breaking_43 : decode cX8_breaking 43 = .ok (.iload 5, 2) := by decide +kernel
theorem dX8_breaking_45 : decode cX8_breaking 45 = .ok (.ireturn, 1) := by decide +kernel
theorem dX8_breaking_46 : decode cX8_breaking 46 = .ok (.iinc 5 1, 3) := by decide +kernel
theorem dX8_breaking_49 : decode cX8_breaking 49 = .ok (.goto (-35), 3) := by decide +kernel
theorem dX8_breaking_52 : decode cX8_breaking 52 = .ok (.bipush (-2), 2) := by decide +kernel
theorem dX8_breaking_54 : decode cX8_breaking 54 = .ok (.ireturn, 1) := by decide +kernel
theorem dX8_stable_0 : decode cX8_stable 0 = .ok (.iload_n 1, 1) := by decide +kernel
theorem dX8_stable_1 : decode cX8_stable 1 = .ok (.invokestatic 120, 3) := by decide +kernel
theorem dX8_stable_4 : decode cX8_stable 4 = .ok (.ifCond .eq 30, 3) := by decide +kernel
theorem dX8_stable_7 : decode cX8_stable 7 = .ok (.aload_n 0, 1) := by decide +kernel
theorem dX8_stable_8 : decode cX8_stable 8 = .ok (.iload_n 2, 1) := by decide +kernel
theorem dX8_stable_9 : decode cX8_stable 9 = .ok (.invokevirtual 126, 3) := by decide +kernel
theorem dX8_stable_12 : decode cX8_stable 12 = .ok (.ifCond .eq 22, 3) := by decide +kernel
theorem dX8_stable_15 : decode cX8_stable 15 = .ok (.iload_n 3, 1) := by decide +kernel
theorem dX8_stable_16 : decode cX8_stable 16 = .ok (.invokestatic 123, 3) := by decide +kernel
theorem dX8_stable_19 : decode cX8_stable 19 = .ok (.ifCond .eq 15, 3) := by decide +kernel
theorem dX8_stable_22 : decode cX8_stable 22 = .ok (.iload 4, 2) := by decide +kernel
theorem dX8_stable_24 : decode cX8_stable 24 = .ok (.iconst 0, 1) := by decide +kernel
theorem dX8_stable_25 : decode cX8_stable 25 = .ok (.sipush 255, 3) := by decide +kernel
theorem dX8_stable_28 : decode cX8_stable 28 = .ok (.invokestatic 99, 3) := by decide +kernel
theorem dX8_stable_31 : decode cX8_stable 31 = .ok (.ifCond .ne 7, 3) := by decide +kernel
theorem dX8_stable_34 : decode cX8_stable 34 = .ok (.iconst (-1), 1) := by decide +kernel
theorem dX8_stable_35 : decode cX8_stable 35 = .ok (.goto 22, 3) := by decide +kernel
theorem dX8_stable_38 : decode cX8_stable 38 = .ok (.aload_n 0, 1) := by decide +kernel
theorem dX8_stable_39 : decode cX8_stable 39 = .ok (.iload_n 1, 1) := by decide +kernel
theorem dX8_stable_40 : decode cX8_stable 40 = .ok (.iload_n 2, 1) := by decide +kernel
theorem dX8_stable_41 : decode cX8_stable 41 = .ok (.iload_n 3, 1) := by decide +kernel
theorem dX8_stable_42 : decode cX8_stable 42 = .ok (.iload 4, 2) := by decide +kernel
theorem dX8_stable_44 : decode cX8_stable 44 = .ok (.invokevirtual 211, 3) := by decide +kernel
theorem dX8_stable_47 : decode cX8_stable 47 = .ok (.bipush (-2), 2) := by decide +kernel
theorem dX8_stable_49 : decode cX8_stable 49 = .ok (.if_icmp .ne 7, 3) := by decide +kernel
theorem dX8_stable_52 : decode cX8_stable 52 = .ok (.iconst 1, 1) := by decide +kernel
theorem dX8_stable_53 : decode cX8_stable 53 = .ok (.goto 4, 3) := by decide +kernel
theorem dX8_stable_56 : decode cX8_stable 56 = .ok (.iconst 0, 1) := by decide +kernel
theorem dX8_stable_57 : decode cX8_stable 57 = .ok (.ireturn, 1) := by decide +kernel
theorem dX8_breaks_0 : decode cX8_breaks 0 = .ok (.iload_n 1, 1) := by decide +kernel
theorem dX8_breaks_1 : decode cX8_breaks 1 = .ok (.invokestatic 120, 3) := by decide +kernel
theorem dX8_breaks_4 : decode cX8_breaks 4 = .ok (.ifCond .eq 31, 3) := by decide +kernel
theorem dX8_breaks_7 : decode cX8_breaks 7 = .ok (.aload_n 0, 1) := by decide +kernel
theorem dX8_breaks_8 : decode cX8_breaks 8 = .ok (.iload_n 2, 1) := by decide +kernel
theorem dX8_breaks_9 : decode cX8_breaks 9 = .ok (.invokevirtual 126, 3) := by decide +kernel
theorem dX8_breaks_12 : decode cX8_breaks 12 = .ok (.ifCond .eq 23, 3) := by decide +kernel
theorem dX8_breaks_15 : decode cX8_breaks 15 = .ok (.iload_n 3, 1) := by decide +kernel
theorem dX8_breaks_16 : decode cX8_breaks 16 = .ok (.invokestatic 123, 3) := by decide +kernel
theorem dX8_breaks_19 : decode cX8_breaks 19 = .ok (.ifCond .eq 16, 3) := by decide +kernel
theorem dX8_breaks_22 : decode cX8_breaks 22 = .ok (.aload_n 0, 1) := by decide +kernel
theorem dX8_breaks_23 : decode cX8_breaks 23 = .ok (.iload_n 1, 1) := by decide +kernel
theorem dX8_breaks_24 : decode cX8_breaks 24 = .ok (.iload_n 2, 1) := by decide +kernel
theorem dX8_breaks_25 : decode cX8_breaks 25 = .ok (.iload_n 3, 1) := by decide +kernel
theorem dX8_breaks_26 : decode cX8_breaks 26 = .ok (.sipush 255, 3) := by decide +kernel
theorem dX8_breaks_29 : decode cX8_breaks 29 = .ok (.invokevirtual 211, 3) := by decide +kernel
theorem dX8_breaks_32 : decode cX8_breaks 32 = .ok (.goto 4, 3) := by decide +kernel
theorem dX8_breaks_35 : decode cX8_breaks 35 = .ok (.iconst (-1), 1) := by decide +kernel
theorem dX8_breaks_36 : decode cX8_breaks 36 = .ok (.ireturn, 1) := by decide +kernel
theorem dX8_areEnough_0 : decode cX8_areEnough 0 = .ok (.iconst 0, 1) := by decide +kernel
theorem dX8_areEnough_1 : decode cX8_areEnough 1 = .ok (.istore_n 3, 1) := by decide +kernel
theorem dX8_areEnough_2 : decode cX8_areEnough 2 = .ok (.iload_n 3, 1) := by decide +kernel
theorem dX8_areEnough_3 : decode cX8_areEnough 3 = .ok (.bipush 8, 2) := by decide +kernel
theorem dX8_areEnough_5 : decode cX8_areEnough 5 = .ok (.if_icmp .ge 121, 3) := by decide +kernel
theorem dX8_areEnough_8 : decode cX8_areEnough 8 = .ok (.iload_n 2, 1) := by decide +kernel
theorem dX8_areEnough_9 : decode cX8_areEnough 9 = .ok (.iload_n 3, 1) := by decide +kernel
theorem dX8_areEnough_10 : decode cX8_areEnough 10 = .ok (.ishr, 1) := by decide +kernel
theorem dX8_areEnough_11 : decode cX8_areEnough 11 = .ok (.iconst 1, 1) := by decide +kernel
theorem dX8_areEnough_12 : decode cX8_areEnough 12 = .ok (.iand, 1) := by decide +kernel
theorem dX8_areEnough_13 : decode cX8_areEnough 13 = .ok (.ifCond .ne 6, 3) := by decide +kernel
theorem dX8_areEnough_16 : decode cX8_areEnough 16 = .ok (.goto 104, 3) := by decide +kernel
theorem dX8_areEnough_19 : decode cX8_areEnough 19 = .ok (.iconst 0, 1) := by decide +kernel
theorem dX8_areEnough_20 : decode cX8_areEnough 20 = .ok (.istore 4, 2) := by decide +kernel
theorem dX8_areEnough_22 : decode cX8_areEnough 22 = .ok (.iconst 0, 1) := by decide +kernel
theorem dX8_areEnough_23 : decode cX8_areEnough 23 = .ok (.istore 5, 2) := by decide +kernel
theorem dX8_areEnough_25 : decode cX8_areEnough 25 = .ok (.iload 5, 2) := by decide +kernel
theorem dX8_areEnough_27 : decode cX8_areEnough 27 = .ok (.bipush 8, 2) := by decide +kernel
theorem dX8_areEnough_29 : decode cX8_areEnough 29 = .ok (.if_icmp .ge 84, 3) := by decide +kernel
theorem dX8_areEnough_32 : decode cX8_areEnough 32 = .ok (.iconst 0, 1) := by decide +kernel
theorem dX8_areEnough_33 : decode cX8_areEnough 33 = .ok (.istore 6, 2) := by decide +kernel
theorem dX8_areEnough_35 : decode cX8_areEnough 35 = .ok (.iload 6, 2) := by decide +kernel
theorem dX8_areEnough_37 : decode cX8_areEnough 37 = .ok (.iload 5, 2) := by decide +kernel
theorem dX8_areEnough_39 : decode cX8_areEnough 39 = .ok (.if_icmp .ge 68, 3) := by decide +kernel
theorem dX8_areEnough_42 : decode cX8_areEnough 42 = .ok (.iload 4, 2) := by decide +kernel
theorem dX8_areEnough_44 : decode cX8_areEnough 44 = .ok (.ifCond .ne 50, 3) := by decide +kernel
theorem dX8_areEnough_47 : decode cX8_areEnough 47 = .ok (.iload_n 1, 1) := by decide +kernel
theorem dX8_areEnough_48 : decode cX8_areEnough 48 = .ok (.iload 5, 2) := by decide +kernel
theorem dX8_areEnough_50 : decode cX8_areEnough 50 = .ok (.ishr, 1) := by decide +kernel
theorem dX8_areEnough_51 : decode cX8_areEnough 51 = .ok (.iconst 1, 1) := by decide +kernel
theorem dX8_areEnough_52 : decode cX8_areEnough 52 = .ok (.iand, 1) := by decide +kernel
theorem dX8_areEnough_53 : decode cX8_areEnough 53 = .ok (.iconst 1, 1) := by decide +kernel
theorem dX8_areEnough_54 : decode cX8_areEnough 54 = .ok (.if_icmp .ne 44, 3) := by decide +kernel
theorem dX8_areEnough_57 : decode cX8_areEnough 57 = .ok (.iload_n 1, 1) := by decide +kernel
theorem dX8_areEnough_58 : decode cX8_areEnough 58 = .ok (.iload 6, 2) := by decide +kernel
theorem dX8_areEnough_60 : decode cX8_areEnough 60 = .ok (.ishr, 1) := by decide +kernel
theorem dX8_areEnough_61 : decode cX8_areEnough 61 = .ok (.iconst 1, 1) := by decide +kernel
theorem dX8_areEnough_62 : decode cX8_areEnough 62 = .ok (.iand, 1) := by decide +kernel
theorem dX8_areEnough_63 : decode cX8_areEnough 63 = .ok (.iconst 1, 1) := by decide +kernel
theorem dX8_areEnough_64 : decode cX8_areEnough 64 = .ok (.if_icmp .ne 34, 3) := by decide +kernel
theorem dX8_areEnough_67 : decode cX8_areEnough 67 = .ok (.aload_n 0, 1) := by decide +kernel
theorem dX8_areEnough_68 : decode cX8_areEnough 68 = .ok (.getfield 23, 3) := by decide +kernel
theorem dX8_areEnough_71 : decode cX8_areEnough 71 = .ok (.bipush 8, 2) := by decide +kernel
theorem dX8_areEnough_73 : decode cX8_areEnough 73 = .ok (.iload 5, 2) := by decide +kernel
theorem dX8_areEnough_75 : decode cX8_areEnough 75 = .ok (.imul, 1) := by decide +kernel
theorem dX8_areEnough_76 : decode cX8_areEnough 76 = .ok (.iload_n 3, 1) := by decide +kernel
theorem dX8_areEnough_77 : decode cX8_areEnough 77 = .ok (.iadd, 1) := by decide +kernel
theorem dX8_areEnough_78 : decode cX8_areEnough 78 = .ok (.iaload, 1) := by decide +kernel
theorem dX8_areEnough_79 : decode cX8_areEnough 79 = .ok (.aload_n 0, 1) := by decide +kernel
theorem dX8_areEnough_80 : decode cX8_areEnough 80 = .ok (.getfield 23, 3) := by decide +kernel
theorem dX8_areEnough_83 : decode cX8_areEnough 83 = .ok (.bipush 8, 2) := by decide +kernel
theorem dX8_areEnough_85 : decode cX8_areEnough 85 = .ok (.iload 6, 2) := by decide +kernel
theorem dX8_areEnough_87 : decode cX8_areEnough 87 = .ok (.imul, 1) := by decide +kernel
theorem dX8_areEnough_88 : decode cX8_areEnough 88 = .ok (.iload_n 3, 1) := by decide +kernel
theorem dX8_areEnough_89 : decode cX8_areEnough 89 = .ok (.iadd, 1) := by decide +kernel
theorem dX8_areEnough_90 : decode cX8_areEnough 90 = .ok (.iaload, 1) := by decide +kernel
theorem dX8_areEnough_91 : decode cX8_areEnough 91 = .ok (.if_icmp .eq 7, 3) := by decide +kernel
theorem dX8_areEnough_94 : decode cX8_areEnough 94 = .ok (.iconst 1, 1) := by decide +kernel
theorem dX8_areEnough_95 : decode cX8_areEnough 95 = .ok (.goto 4, 3) := by decide +kernel
theorem dX8_areEnough_98 : decode cX8_areEnough 98 = .ok (.iconst 0, 1) := by decide +kernel
theorem dX8_areEnough_99 : decode cX8_areEnough 99 = .ok (.istore 4, 2) := by decide +kernel
theorem dX8_areEnough_101 : decode cX8_areEnough 101 = .ok (.iinc 6 1, 3) := by decide +kernel
theorem dX8_areEnough_104 : decode cX8_areEnough 104 = .ok (.goto (-69), 3) := by decide +kernel
theorem dX8_areEnough_107 : decode cX8_areEnough 107 = .ok (.iinc 5 1, 3) := by decide +kernel
theorem dX8_areEnough_110 : decode cX8_areEnough 110 = .ok (.goto (-85), 3) := by decide +kernel
theorem dX8_areEnough_113 : decode cX8_areEnough 113 = .ok (.iload 4, 2) := by decide +kernel
theorem dX8_areEnough_115 : decode cX8_areEnough 115 = .ok (.ifCond .ne 5, 3) := by decide +kernel
theorem dX8_areEnough_118 : decode cX8_areEnough 118 = .ok (.iconst 0, 1) := by decide +kernel
theorem dX8_areEnough_119 : decode cX8_areEnough 119 = .ok (.ireturn, 1) := by decide +kernel
theorem dX8_areEnough_120 : decode cX8_areEnough 120 = .ok (.iinc 3 1, 3) := by decide +kernel
theorem dX8_areEnough_123 : decode cX8_areEnough 123 = .ok (.goto (-121), 3) := by decide +kernel
theorem dX8_areEnough_126 : decode cX8_areEnough 126 = .ok (.iconst 1, 1) := by decide +kernel
theorem dX8_areEnough_127 : decode cX8_areEnough 127 = .ok (.ireturn, 1) := by decide +kernel
theorem dX8_rooms_0 : decode cX8_rooms 0 = .ok (.aload_n 0, 1) := by decide +kernel
theorem dX8_rooms_1 : decode cX8_rooms 1 = .ok (.iload_n 1, 1) := by decide +kernel
theorem dX8_rooms_2 : decode cX8_rooms 2 = .ok (.invokevirtual 126, 3) := by decide +kernel
theorem dX8_rooms_5 : decode cX8_rooms 5 = .ok (.ifCond .eq 14, 3) := by decide +kernel
theorem dX8_rooms_8 : decode cX8_rooms 8 = .ok (.iload_n 2, 1) := by decide +kernel
theorem dX8_rooms_9 : decode cX8_rooms 9 = .ok (.iconst 1, 1) := by decide +kernel
theorem dX8_rooms_10 : decode cX8_rooms 10 = .ok (.sipush 255, 3) := by decide +kernel
theorem dX8_rooms_13 : decode cX8_rooms 13 = .ok (.invokestatic 99, 3) := by decide +kernel
theorem dX8_rooms_16 : decode cX8_rooms 16 = .ok (.ifCond .ne 5, 3) := by decide +kernel
theorem dX8_rooms_19 : decode cX8_rooms 19 = .ok (.iconst (-1), 1) := by decide +kernel
theorem dX8_rooms_20 : decode cX8_rooms 20 = .ok (.ireturn, 1) := by decide +kernel
theorem dX8_rooms_21 : decode cX8_rooms 21 = .ok (.aload_n 0, 1) := by decide +kernel
theorem dX8_rooms_22 : decode cX8_rooms 22 = .ok (.iconst 0, 1) := by decide +kernel
theorem dX8_rooms_23 : decode cX8_rooms 23 = .ok (.iload_n 1, 1) := by decide +kernel
theorem dX8_rooms_24 : decode cX8_rooms 24 = .ok (.iconst 1, 1) := by decide +kernel
theorem dX8_rooms_25 : decode cX8_rooms 25 = .ok (.invokevirtual 178, 3) := by decide +kernel
theorem dX8_rooms_28 : decode cX8_rooms 28 = .ok (.istore_n 3, 1) := by decide +kernel
theorem dX8_rooms_29 : decode cX8_rooms 29 = .ok (.iconst (-1), 1) := by decide +kernel
theorem dX8_rooms_30 : decode cX8_rooms 30 = .ok (.istore 4, 2) := by decide +kernel
theorem dX8_rooms_32 : decode cX8_rooms 32 = .ok (.iconst 1, 1) := by decide +kernel
theorem dX8_rooms_33 : decode cX8_rooms 33 = .ok (.istore 5, 2) := by decide +kernel
theorem dX8_rooms_35 : decode cX8_rooms 35 = .ok (.iload 5, 2) := by decide +kernel
theorem dX8_rooms_37 : decode cX8_rooms 37 = .ok (.sipush 256, 3) := by decide +kernel
theorem dX8_rooms_40 : decode cX8_rooms 40 = .ok (.if_icmp .ge 53, 3) := by decide +kernel
theorem dX8_rooms_43 : decode cX8_rooms 43 = .ok (.iload 5, 2) := by decide +kernel
theorem dX8_rooms_45 : decode cX8_rooms 45 = .ok (.iload_n 2, 1) := by decide +kernel
theorem dX8_rooms_46 : decode cX8_rooms 46 = .ok (.iconst (-1), 1) := by decide +kernel
theorem dX8_rooms_47 : decode cX8_rooms 47 = .ok (.ixor, 1) := by decide +kernel
theorem dX8_rooms_48 : decode cX8_rooms 48 = .ok (.iand, 1) := by decide +kernel
theorem dX8_rooms_49 : decode cX8_rooms 49 = .ok (.ifCond .ne 38, 3) := by decide +kernel
theorem dX8_rooms_52 : decode cX8_rooms 52 = .ok (.iload 4, 2) := by decide +kernel
theorem dX8_rooms_54 : decode cX8_rooms 54 = .ok (.ifCond .lt 19, 3) := by decide +kernel
theorem dX8_rooms_57 : decode cX8_rooms 57 = .ok (.iload 5, 2) := by decide +kernel
theorem dX8_rooms_59 : decode cX8_rooms 59 = .ok (.invokestatic 184, 3) := by decide +kernel
theorem dX8_rooms_62 : decode cX8_rooms 62 = .ok (.iload 4, 2) := by decide +kernel
theorem dX8_rooms_64 : decode cX8_rooms 64 = .ok (.invokestatic 184, 3) := by decide +kernel
theorem dX8_rooms_67 : decode cX8_rooms 67 = .ok (.if_icmp .lt 6, 3) := by decide +kernel
theorem dX8_rooms_70 : decode cX8_rooms 70 = .ok (.goto 17, 3) := by decide +kernel
theorem dX8_rooms_73 : decode cX8_rooms 73 = .ok (.aload_n 0, 1) := by decide +kernel
theorem dX8_rooms_74 : decode cX8_rooms 74 = .ok (.iload 5, 2) := by decide +kernel
theorem dX8_rooms_76 : decode cX8_rooms 76 = .ok (.iload_n 3, 1) := by decide +kernel
theorem dX8_rooms_77 : decode cX8_rooms 77 = .ok (.invokevirtual 215, 3) := by decide +kernel
theorem dX8_rooms_80 : decode cX8_rooms 80 = .ok (.ifCond .eq 7, 3) := by decide +kernel
theorem dX8_rooms_83 : decode cX8_rooms 83 = .ok (.iload 5, 2) := by decide +kernel
theorem dX8_rooms_85 : decode cX8_rooms 85 = .ok (.istore 4, 2) := by decide +kernel
theorem dX8_rooms_87 : decode cX8_rooms 87 = .ok (.iinc 5 1, 3) := by decide +kernel
theorem dX8_rooms_90 : decode cX8_rooms 90 = .ok (.goto (-55), 3) := by decide +kernel
theorem dX8_rooms_93 : decode cX8_rooms 93 = .ok (.iload 4, 2) := by decide +kernel
theorem dX8_rooms_95 : decode cX8_rooms 95 = .ok (.ifCond .ge 8, 3) := by decide +kernel
theorem dX8_rooms_98 : decode cX8_rooms 98 = .ok (.bipush (-2), 2) := by decide +kernel
theorem dX8_rooms_100 : decode cX8_rooms 100 = .ok (.goto 5, 3) := by decide +kernel
theorem dX8_rooms_103 : decode cX8_rooms 103 = .ok (.iload 4, 2) := by decide +kernel
theorem dX8_rooms_105 : decode cX8_rooms 105 = .ok (.ireturn, 1) := by decide +kernel
theorem dX8_isMaker_0 : decode cX8_isMaker 0 = .ok (.iload_n 0, 1) := by decide +kernel
theorem dX8_isMaker_1 : decode cX8_isMaker 1 = .ok (.iconst 0, 1) := by decide +kernel
theorem dX8_isMaker_2 : decode cX8_isMaker 2 = .ok (.bipush 29, 2) := by decide +kernel
theorem dX8_isMaker_4 : decode cX8_isMaker 4 = .ok (.invokestatic 99, 3) := by decide +kernel
theorem dX8_isMaker_7 : decode cX8_isMaker 7 = .ok (.ireturn, 1) := by decide +kernel
theorem dX8_maker_0 : decode cX8_maker 0 = .ok (.iload_n 1, 1) := by decide +kernel
theorem dX8_maker_1 : decode cX8_maker 1 = .ok (.invokestatic 218, 3) := by decide +kernel
theorem dX8_maker_4 : decode cX8_maker 4 = .ok (.ifCond .eq 23, 3) := by decide +kernel
theorem dX8_maker_7 : decode cX8_maker 7 = .ok (.iload_n 2, 1) := by decide +kernel
theorem dX8_maker_8 : decode cX8_maker 8 = .ok (.iconst (-1), 1) := by decide +kernel
theorem dX8_maker_9 : decode cX8_maker 9 = .ok (.if_icmp .eq 20, 3) := by decide +kernel
theorem dX8_maker_12 : decode cX8_maker 12 = .ok (.iload_n 2, 1) := by decide +kernel
theorem dX8_maker_13 : decode cX8_maker 13 = .ok (.invokestatic 218, 3) := by decide +kernel
theorem dX8_maker_16 : decode cX8_maker 16 = .ok (.ifCond .eq 11, 3) := by decide +kernel
theorem dX8_maker_19 : decode cX8_maker 19 = .ok (.aload_n 0, 1) := by decide +kernel
theorem dX8_maker_20 : decode cX8_maker 20 = .ok (.iload_n 3, 1) := by decide +kernel
theorem dX8_maker_21 : decode cX8_maker 21 = .ok (.invokevirtual 116, 3) := by decide +kernel
theorem dX8_maker_24 : decode cX8_maker 24 = .ok (.ifCond .ne 5, 3) := by decide +kernel
theorem dX8_maker_27 : decode cX8_maker 27 = .ok (.iconst (-1), 1) := by decide +kernel
theorem dX8_maker_28 : decode cX8_maker 28 = .ok (.ireturn, 1) := by decide +kernel
theorem dX8_maker_29 : decode cX8_maker 29 = .ok (.aload_n 0, 1) := by decide +kernel
theorem dX8_maker_30 : decode cX8_maker 30 = .ok (.getfield 80, 3) := by decide +kernel
theorem dX8_maker_33 : decode cX8_maker 33 = .ok (.iload_n 1, 1) := by decide +kernel
theorem dX8_maker_34 : decode cX8_maker 34 = .ok (.iload_n 2, 1) := by decide +kernel
theorem dX8_maker_35 : decode cX8_maker 35 = .ok (.iastore, 1) := by decide +kernel
theorem dX8_maker_36 : decode cX8_maker 36 = .ok (.aload_n 0, 1) := by decide +kernel
theorem dX8_maker_37 : decode cX8_maker 37 = .ok (.getfield 83, 3) := by decide +kernel
theorem dX8_maker_40 : decode cX8_maker 40 = .ok (.iload_n 1, 1) := by decide +kernel
theorem dX8_maker_41 : decode cX8_maker 41 = .ok (.iload_n 2, 1) := by decide +kernel
theorem dX8_maker_42 : decode cX8_maker 42 = .ok (.ifCond .ge 7, 3) := by decide +kernel
theorem dX8_maker_45 : decode cX8_maker 45 = .ok (.iconst 0, 1) := by decide +kernel
theorem dX8_maker_46 : decode cX8_maker 46 = .ok (.goto 4, 3) := by decide +kernel
theorem dX8_maker_49 : decode cX8_maker 49 = .ok (.iload_n 3, 1) := by decide +kernel
theorem dX8_maker_50 : decode cX8_maker 50 = .ok (.iastore, 1) := by decide +kernel
theorem dX8_maker_51 : decode cX8_maker 51 = .ok (.iconst 1, 1) := by decide +kernel
theorem dX8_maker_52 : decode cX8_maker 52 = .ok (.ireturn, 1) := by decide +kernel
theorem dX8_downFrom_0 : decode cX8_downFrom 0 = .ok (.iconst 0, 1) := by decide +kernel
theorem dX8_downFrom_1 : decode cX8_downFrom 1 = .ok (.istore_n 2, 1) := by decide +kernel
theorem dX8_downFrom_2 : decode cX8_downFrom 2 = .ok (.iload_n 1, 1) := by decide +kernel
theorem dX8_downFrom_3 : decode cX8_downFrom 3 = .ok (.istore_n 3, 1) := by decide +kernel
theorem dX8_downFrom_4 : decode cX8_downFrom 4 = .ok (.aload_n 0, 1) := by decide +kernel
theorem dX8_downFrom_5 : decode cX8_downFrom 5 = .ok (.getfield 80, 3) := by decide +kernel
theorem dX8_downFrom_8 : decode cX8_downFrom 8 = .ok (.iload_n 3, 1) := by decide +kernel
theorem dX8_downFrom_9 : decode cX8_downFrom 9 = .ok (.iaload, 1) := by decide +kernel
theorem dX8_downFrom_10 : decode cX8_downFrom 10 = .ok (.ifCond .lt 25, 3) := by decide +kernel
theorem dX8_downFrom_13 : decode cX8_downFrom 13 = .ok (.iload_n 2, 1) := by decide +kernel
theorem dX8_downFrom_14 : decode cX8_downFrom 14 = .ok (.bipush 30, 2) := by decide +kernel
theorem dX8_downFrom_16 : decode cX8_downFrom 16 = .ok (.if_icmp .ne 6, 3) := by decide +kernel
theorem dX8_downFrom_19 : decode cX8_downFrom 19 = .ok (.bipush (-5), 2) := by decide +kernel
theorem dX8_downFrom_21 : decode cX8_downFrom 21 = .ok (.ireturn, 1) := by decide +kernel
theorem dX8_downFrom_22 : decode cX8_downFrom 22 = .ok (.aload_n 0, 1) := by decide +kernel
theorem dX8_downFrom_23 : decode cX8_downFrom 23 = .ok (.getfield 80, 3) := by decide +kernel
theorem dX8_downFrom_26 : decode cX8_downFrom 26 = .ok (.iload_n 3, 1) := by decide +kernel
theorem dX8_downFrom_27 : decode cX8_downFrom 27 = .ok (.iaload, 1) := by decide +kernel
theorem dX8_downFrom_28 : decode cX8_downFrom 28 = .ok (.istore_n 3, 1) := by decide +kernel
theorem dX8_downFrom_29 : decode cX8_downFrom 29 = .ok (.iinc 2 1, 3) := by decide +kernel
theorem dX8_downFrom_32 : decode cX8_downFrom 32 = .ok (.goto (-28), 3) := by decide +kernel
theorem dX8_downFrom_35 : decode cX8_downFrom 35 = .ok (.iload_n 2, 1) := by decide +kernel
theorem dX8_downFrom_36 : decode cX8_downFrom 36 = .ok (.ireturn, 1) := by decide +kernel
theorem dX8_down_0 : decode cX8_down 0 = .ok (.iload_n 1, 1) := by decide +kernel
theorem dX8_down_1 : decode cX8_down 1 = .ok (.invokestatic 218, 3) := by decide +kernel
theorem dX8_down_4 : decode cX8_down 4 = .ok (.ifCond .eq 11, 3) := by decide +kernel
theorem dX8_down_7 : decode cX8_down 7 = .ok (.aload_n 0, 1) := by decide +kernel
theorem dX8_down_8 : decode cX8_down 8 = .ok (.iload_n 1, 1) := by decide +kernel
theorem dX8_down_9 : decode cX8_down 9 = .ok (.invokevirtual 221, 3) := by decide +kernel
theorem dX8_down_12 : decode cX8_down 12 = .ok (.goto 4, 3) := by decide +kernel
theorem dX8_down_15 : decode cX8_down 15 = .ok (.iconst (-1), 1) := by decide +kernel
theorem dX8_down_16 : decode cX8_down 16 = .ok (.ireturn, 1) := by decide +kernel
theorem dX8_walk_0 : decode cX8_walk 0 = .ok (.iconst 0, 1) := by decide +kernel
theorem dX8_walk_1 : decode cX8_walk 1 = .ok (.istore_n 2, 1) := by decide +kernel
theorem dX8_walk_2 : decode cX8_walk 2 = .ok (.iload_n 2, 1) := by decide +kernel
theorem dX8_walk_3 : decode cX8_walk 3 = .ok (.bipush 30, 2) := by decide +kernel
theorem dX8_walk_5 : decode cX8_walk 5 = .ok (.if_icmp .ge 16, 3) := by decide +kernel
theorem dX8_walk_8 : decode cX8_walk 8 = .ok (.aload_n 0, 1) := by decide +kernel
theorem dX8_walk_9 : decode cX8_walk 9 = .ok (.getfield 89, 3) := by decide +kernel
theorem dX8_walk_12 : decode cX8_walk 12 = .ok (.iload_n 2, 1) := by decide +kernel
theorem dX8_walk_13 : decode cX8_walk 13 = .ok (.iconst 0, 1) := by decide +kernel
theorem dX8_walk_14 : decode cX8_walk 14 = .ok (.bastore, 1) := by decide +kernel
theorem dX8_walk_15 : decode cX8_walk 15 = .ok (.iinc 2 1, 3) := by decide +kernel
theorem dX8_walk_18 : decode cX8_walk 18 = .ok (.goto (-16), 3) := by decide +kernel
theorem dX8_walk_21 : decode cX8_walk 21 = .ok (.iload_n 1, 1) := by decide +kernel
theorem dX8_walk_22 : decode cX8_walk 22 = .ok (.istore_n 2, 1) := by decide +kernel
theorem dX8_walk_23 : decode cX8_walk 23 = .ok (.aload_n 0, 1) := by decide +kernel
theorem dX8_walk_24 : decode cX8_walk 24 = .ok (.getfield 89, 3) := by decide +kernel
theorem dX8_walk_27 : decode cX8_walk 27 = .ok (.iload_n 1, 1) := by decide +kernel
theorem dX8_walk_28 : decode cX8_walk 28 = .ok (.iconst 1, 1) := by decide +kernel
theorem dX8_walk_29 : decode cX8_walk 29 = .ok (.bastore, 1) := by decide +kernel
theorem dX8_walk_30 : decode cX8_walk 30 = .ok (.aload_n 0, 1) := by decide +kernel
theorem dX8_walk_31 : decode cX8_walk 31 = .ok (.getfield 80, 3) := by decide +kernel
theorem dX8_walk_34 : decode cX8_walk 34 = .ok (.iload_n 2, 1) := by decide +kernel
theorem dX8_walk_35 : decode cX8_walk 35 = .ok (.iaload, 1) := by decide +kernel
theorem dX8_walk_36 : decode cX8_walk 36 = .ok (.ifCond .lt 34, 3) := by decide +kernel
theorem dX8_walk_39 : decode cX8_walk 39 = .ok (.aload_n 0, 1) := by decide +kernel
theorem dX8_walk_40 : decode cX8_walk 40 = .ok (.getfield 89, 3) := by decide +kernel
theorem dX8_walk_43 : decode cX8_walk 43 = .ok (.aload_n 0, 1) := by decide +kernel
theorem dX8_walk_44 : decode cX8_walk 44 = .ok (.getfield 80, 3) := by decide +kernel
theorem dX8_walk_47 : decode cX8_walk 47 = .ok (.iload_n 2, 1) := by decide +kernel
theorem dX8_walk_48 : decode cX8_walk 48 = .ok (.iaload, 1) := by decide +kernel
theorem dX8_walk_49 : decode cX8_walk 49 = .ok (.baload, 1) := by decide +kernel
theorem dX8_walk_50 : decode cX8_walk 50 = .ok (.ifCond .ne 20, 3) := by decide +kernel
theorem dX8_walk_53 : decode cX8_walk 53 = .ok (.aload_n 0, 1) := by decide +kernel
theorem dX8_walk_54 : decode cX8_walk 54 = .ok (.getfield 80, 3) := by decide +kernel
theorem dX8_walk_57 : decode cX8_walk 57 = .ok (.iload_n 2, 1) := by decide +kernel
theorem dX8_walk_58 : decode cX8_walk 58 = .ok (.iaload, 1) := by decide +kernel
theorem dX8_walk_59 : decode cX8_walk 59 = .ok (.istore_n 2, 1) := by decide +kernel
theorem dX8_walk_60 : decode cX8_walk 60 = .ok (.aload_n 0, 1) := by decide +kernel
theorem dX8_walk_61 : decode cX8_walk 61 = .ok (.getfield 89, 3) := by decide +kernel
theorem dX8_walk_64 : decode cX8_walk 64 = .ok (.iload_n 2, 1) := by decide +kernel
theorem dX8_walk_65 : decode cX8_walk 65 = .ok (.iconst 1, 1) := by decide +kernel
theorem dX8_walk_66 : decode cX8_walk 66 = .ok (.bastore, 1) := by decide +kernel
theorem dX8_walk_67 : decode cX8_walk 67 = .ok (.goto (-37), 3) := by decide +kernel
theorem dX8_walk_70 : decode cX8_walk 70 = .ok (.aload_n 0, 1) := by decide +kernel
theorem dX8_walk_71 : decode cX8_walk 71 = .ok (.getfield 80, 3) := by decide +kernel
theorem dX8_walk_74 : decode cX8_walk 74 = .ok (.iload_n 2, 1) := by decide +kernel
theorem dX8_walk_75 : decode cX8_walk 75 = .ok (.iaload, 1) := by decide +kernel
theorem dX8_walk_76 : decode cX8_walk 76 = .ok (.ifCond .ge 7, 3) := by decide +kernel
theorem dX8_walk_79 : decode cX8_walk 79 = .ok (.iload_n 2, 1) := by decide +kernel
theorem dX8_walk_80 : decode cX8_walk 80 = .ok (.goto 9, 3) := by decide +kernel
theorem dX8_walk_83 : decode cX8_walk 83 = .ok (.aload_n 0, 1) := by decide +kernel
theorem dX8_walk_84 : decode cX8_walk 84 = .ok (.getfield 80, 3) := by decide +kernel
theorem dX8_walk_87 : decode cX8_walk 87 = .ok (.iload_n 2, 1) := by decide +kernel
theorem dX8_walk_88 : decode cX8_walk 88 = .ok (.iaload, 1) := by decide +kernel
theorem dX8_walk_89 : decode cX8_walk 89 = .ok (.ireturn, 1) := by decide +kernel
theorem dX8_ring_0 : decode cX8_ring 0 = .ok (.iload_n 1, 1) := by decide +kernel
theorem dX8_ring_1 : decode cX8_ring 1 = .ok (.invokestatic 218, 3) := by decide +kernel
theorem dX8_ring_4 : decode cX8_ring 4 = .ok (.ifCond .ne 5, 3) := by decide +kernel
theorem dX8_ring_7 : decode cX8_ring 7 = .ok (.iconst (-1), 1) := by decide +kernel
theorem dX8_ring_8 : decode cX8_ring 8 = .ok (.ireturn, 1) := by decide +kernel
theorem dX8_ring_9 : decode cX8_ring 9 = .ok (.aload_n 0, 1) := by decide +kernel
theorem dX8_ring_10 : decode cX8_ring 10 = .ok (.iload_n 1, 1) := by decide +kernel
theorem dX8_ring_11 : decode cX8_ring 11 = .ok (.invokevirtual 221, 3) := by decide +kernel
theorem dX8_ring_14 : decode cX8_ring 14 = .ok (.bipush (-5), 2) := by decide +kernel
theorem dX8_ring_16 : decode cX8_ring 16 = .ok (.if_icmp .eq 6, 3) := by decide +kernel
theorem dX8_ring_19 : decode cX8_ring 19 = .ok (.bipush (-2), 2) := by decide +kernel
theorem dX8_ring_21 : decode cX8_ring 21 = .ok (.ireturn, 1) := by decide +kernel
theorem dX8_ring_22 : decode cX8_ring 22 = .ok (.aload_n 0, 1) := by decide +kernel
theorem dX8_ring_23 : decode cX8_ring 23 = .ok (.iload_n 1, 1) := by decide +kernel
theorem dX8_ring_24 : decode cX8_ring 24 = .ok (.invokevirtual 224, 3) := by decide +kernel
theorem dX8_ring_27 : decode cX8_ring 27 = .ok (.istore_n 3, 1) := by decide +kernel
theorem dX8_ring_28 : decode cX8_ring 28 = .ok (.iload_n 2, 1) := by decide +kernel
theorem dX8_ring_29 : decode cX8_ring 29 = .ok (.ifCond .ge 5, 3) := by decide +kernel
theorem dX8_ring_32 : decode cX8_ring 32 = .ok (.iconst (-1), 1) := by decide +kernel
theorem dX8_ring_33 : decode cX8_ring 33 = .ok (.ireturn, 1) := by decide +kernel
theorem dX8_ring_34 : decode cX8_ring 34 = .ok (.iload_n 3, 1) := by decide +kernel
theorem dX8_ring_35 : decode cX8_ring 35 = .ok (.istore 4, 2) := by decide +kernel
theorem dX8_ring_37 : decode cX8_ring 37 = .ok (.iconst 0, 1) := by decide +kernel
theorem dX8_ring_38 : decode cX8_ring 38 = .ok (.istore 5, 2) := by decide +kernel
theorem dX8_ring_40 : decode cX8_ring 40 = .ok (.iload 5, 2) := by decide +kernel
theorem dX8_ring_42 : decode cX8_ring 42 = .ok (.iload_n 2, 1) := by decide +kernel
theorem dX8_ring_43 : decode cX8_ring 43 = .ok (.if_icmp .ge 26, 3) := by decide +kernel
theorem dX8_ring_46 : decode cX8_ring 46 = .ok (.aload_n 0, 1) := by decide +kernel
theorem dX8_ring_47 : decode cX8_ring 47 = .ok (.getfield 80, 3) := by decide +kernel
theorem dX8_ring_50 : decode cX8_ring 50 = .ok (.iload 4, 2) := by decide +kernel
theorem dX8_ring_52 : decode cX8_ring 52 = .ok (.iaload, 1) := by decide +kernel
theorem dX8_ring_53 : decode cX8_ring 53 = .ok (.istore 4, 2) := by decide +kernel
theorem dX8_ring_55 : decode cX8_ring 55 = .ok (.iload 4, 2) := by decide +kernel
theorem dX8_ring_57 : decode cX8_ring 57 = .ok (.iload_n 3, 1) := by decide +kernel
theorem dX8_ring_58 : decode cX8_ring 58 = .ok (.if_icmp .ne 5, 3) := by decide +kernel
theorem dX8_ring_61 : decode cX8_ring 61 = .ok (.iconst (-1), 1) := by decide +kernel
theorem dX8_ring_62 : decode cX8_ring 62 = .ok (.ireturn, 1) := by decide +kernel
theorem dX8_ring_63 : decode cX8_ring 63 = .ok (.iinc 5 1, 3) := by decide +kernel
theorem dX8_ring_66 : decode cX8_ring 66 = .ok (.goto (-26), 3) := by decide +kernel
theorem dX8_ring_69 : decode cX8_ring 69 = .ok (.iload 4, 2) := by decide +kernel
theorem dX8_ring_71 : decode cX8_ring 71 = .ok (.ireturn, 1) := by decide +kernel
theorem dX8_needs_0 : decode cX8_needs 0 = .ok (.iload_n 1, 1) := by decide +kernel
theorem dX8_needs_1 : decode cX8_needs 1 = .ok (.invokestatic 218, 3) := by decide +kernel
theorem dX8_needs_4 : decode cX8_needs 4 = .ok (.ifCond .eq 12, 3) := by decide +kernel
theorem dX8_needs_7 : decode cX8_needs 7 = .ok (.iload_n 2, 1) := by decide +kernel
theorem dX8_needs_8 : decode cX8_needs 8 = .ok (.iconst 0, 1) := by decide +kernel
theorem dX8_needs_9 : decode cX8_needs 9 = .ok (.iconst 1, 1) := by decide +kernel
theorem dX8_needs_10 : decode cX8_needs 10 = .ok (.invokestatic 99, 3) := by decide +kernel
theorem dX8_needs_13 : decode cX8_needs 13 = .ok (.ifCond .ne 5, 3) := by decide +kernel
theorem dX8_needs_16 : decode cX8_needs 16 = .ok (.iconst (-1), 1) := by decide +kernel
theorem dX8_needs_17 : decode cX8_needs 17 = .ok (.ireturn, 1) := by decide +kernel
theorem dX8_needs_18 : decode cX8_needs 18 = .ok (.aload_n 0, 1) := by decide +kernel
theorem dX8_needs_19 : decode cX8_needs 19 = .ok (.iload_n 1, 1) := by decide +kernel
theorem dX8_needs_20 : decode cX8_needs 20 = .ok (.invokevirtual 224, 3) := by decide +kernel
theorem dX8_needs_23 : decode cX8_needs 23 = .ok (.istore_n 3, 1) := by decide +kernel
theorem dX8_needs_24 : decode cX8_needs 24 = .ok (.iconst 0, 1) := by decide +kernel
theorem dX8_needs_25 : decode cX8_needs 25 = .ok (.istore 4, 2) := by decide +kernel
theorem dX8_needs_27 : decode cX8_needs 27 = .ok (.iload 4, 2) := by decide +kernel
theorem dX8_needs_29 : decode cX8_needs 29 = .ok (.bipush 20, 2) := by decide +kernel
theorem dX8_needs_31 : decode cX8_needs 31 = .ok (.if_icmp .ge 17, 3) := by decide +kernel
theorem dX8_needs_34 : decode cX8_needs 34 = .ok (.aload_n 0, 1) := by decide +kernel
theorem dX8_needs_35 : decode cX8_needs 35 = .ok (.getfield 92, 3) := by decide +kernel
theorem dX8_needs_38 : decode cX8_needs 38 = .ok (.iload 4, 2) := by decide +kernel
theorem dX8_needs_40 : decode cX8_needs 40 = .ok (.iconst 0, 1) := by decide +kernel
theorem dX8_needs_41 : decode cX8_needs 41 = .ok (.bastore, 1) := by decide +kernel
theorem dX8_needs_42 : decode cX8_needs 42 = .ok (.iinc 4 1, 3) := by decide +kernel
theorem dX8_needs_45 : decode cX8_needs 45 = .ok (.goto (-18), 3) := by decide +kernel
theorem dX8_needs_48 : decode cX8_needs 48 = .ok (.iconst 0, 1) := by decide +kernel
theorem dX8_needs_49 : decode cX8_needs 49 = .ok (.istore 4, 2) := by decide +kernel
theorem dX8_needs_51 : decode cX8_needs 51 = .ok (.iload 4, 2) := by decide +kernel
theorem dX8_needs_53 : decode cX8_needs 53 = .ok (.bipush 30, 2) := by decide +kernel
theorem dX8_needs_55 : decode cX8_needs 55 = .ok (.if_icmp .ge 42, 3) := by decide +kernel
theorem dX8_needs_58 : decode cX8_needs 58 = .ok (.aload_n 0, 1) := by decide +kernel
theorem dX8_needs_59 : decode cX8_needs 59 = .ok (.getfield 89, 3) := by decide +kernel
theorem dX8_needs_62 : decode cX8_needs 62 = .ok (.iload 4, 2) := by decide +kernel
theorem dX8_needs_64 : decode cX8_needs 64 = .ok (.baload, 1) := by decide +kernel
theorem dX8_needs_65 : decode cX8_needs 65 = .ok (.ifCond .eq 26, 3) := by decide +kernel
theorem dX8_needs_68 : decode cX8_needs 68 = .ok (.aload_n 0, 1) := by decide +kernel
theorem dX8_needs_69 : decode cX8_needs 69 = .ok (.getfield 80, 3) := by decide +kernel
theorem dX8_needs_72 : decode cX8_needs 72 = .ok (.iload 4, 2) := by decide +kernel
theorem dX8_needs_74 : decode cX8_needs 74 = .ok (.iaload, 1) := by decide +kernel
theorem dX8_needs_75 : decode cX8_needs 75 = .ok (.ifCond .lt 16, 3) := by decide +kernel
theorem dX8_needs_78 : decode cX8_needs 78 = .ok (.aload_n 0, 1) := by decide +kernel
theorem dX8_needs_79 : decode cX8_needs 79 = .ok (.getfield 92, 3) := by decide +kernel
theorem dX8_needs_82 : decode cX8_needs 82 = .ok (.aload_n 0, 1) := by decide +kernel
theorem dX8_needs_83 : decode cX8_needs 83 = .ok (.getfield 83, 3) := by decide +kernel
theorem dX8_needs_86 : decode cX8_needs 86 = .ok (.iload 4, 2) := by decide +kernel
theorem dX8_needs_88 : decode cX8_needs 88 = .ok (.iaload, 1) := by decide +kernel
theorem dX8_needs_89 : decode cX8_needs 89 = .ok (.iconst 1, 1) := by decide +kernel
theorem dX8_needs_90 : decode cX8_needs 90 = .ok (.bastore, 1) := by decide +kernel
theorem dX8_needs_91 : decode cX8_needs 91 = .ok (.iinc 4 1, 3) := by decide +kernel
theorem dX8_needs_94 : decode cX8_needs 94 = .ok (.goto (-43), 3) := by decide +kernel
theorem dX8_needs_97 : decode cX8_needs 97 = .ok (.iconst 0, 1) := by decide +kernel
theorem dX8_needs_98 : decode cX8_needs 98 = .ok (.istore 4, 2) := by decide +kernel
theorem dX8_needs_100 : decode cX8_needs 100 = .ok (.iconst 0, 1) := by decide +kernel
theorem dX8_needs_101 : decode cX8_needs 101 = .ok (.istore 5, 2) := by decide +kernel
theorem dX8_needs_103 : decode cX8_needs 103 = .ok (.iload 5, 2) := by decide +kernel
theorem dX8_needs_105 : decode cX8_needs 105 = .ok (.bipush 20, 2) := by decide +kernel
theorem dX8_needs_107 : decode cX8_needs 107 = .ok (.if_icmp .ge 43, 3) := by decide +kernel
theorem dX8_needs_110 : decode cX8_needs 110 = .ok (.iload 4, 2) := by decide +kernel
theorem dX8_needs_112 : decode cX8_needs 112 = .ok (.aload_n 0, 1) := by decide +kernel
theorem dX8_needs_113 : decode cX8_needs 113 = .ok (.getfield 92, 3) := by decide +kernel
theorem dX8_needs_116 : decode cX8_needs 116 = .ok (.iload 5, 2) := by decide +kernel
theorem dX8_needs_118 : decode cX8_needs 118 = .ok (.baload, 1) := by decide +kernel
theorem dX8_needs_119 : decode cX8_needs 119 = .ok (.ifCond .eq 21, 3) := by decide +kernel
theorem dX8_needs_122 : decode cX8_needs 122 = .ok (.iload_n 2, 1) := by decide +kernel
theorem dX8_needs_123 : decode cX8_needs 123 = .ok (.ifCond .eq 13, 3) := by decide +kernel
theorem dX8_needs_126 : decode cX8_needs 126 = .ok (.aload_n 0, 1) := by decide +kernel
theorem dX8_needs_127 : decode cX8_needs 127 = .ok (.getfield 19, 3) := by decide +kernel
theorem dX8_needs_130 : decode cX8_needs 130 = .ok (.iload 5, 2) := by decide +kernel
theorem dX8_needs_132 : decode cX8_needs 132 = .ok (.baload, 1) := by decide +kernel
theorem dX8_needs_133 : decode cX8_needs 133 = .ok (.ifCond .eq 7, 3) := by decide +kernel
theorem dX8_needs_136 : decode cX8_needs 136 = .ok (.iconst 1, 1) := by decide +kernel
theorem dX8_needs_137 : decode cX8_needs 137 = .ok (.goto 4, 3) := by decide +kernel
theorem dX8_needs_140 : decode cX8_needs 140 = .ok (.iconst 0, 1) := by decide +kernel
theorem dX8_needs_141 : decode cX8_needs 141 = .ok (.iadd, 1) := by decide +kernel
theorem dX8_needs_142 : decode cX8_needs 142 = .ok (.istore 4, 2) := by decide +kernel
theorem dX8_needs_144 : decode cX8_needs 144 = .ok (.iinc 5 1, 3) := by decide +kernel
theorem dX8_needs_147 : decode cX8_needs 147 = .ok (.goto (-44), 3) := by decide +kernel
theorem dX8_needs_150 : decode cX8_needs 150 = .ok (.iload 4, 2) := by decide +kernel
theorem dX8_needs_152 : decode cX8_needs 152 = .ok (.ireturn, 1) := by decide +kernel
theorem dX8_forge_0 : decode cX8_forge 0 = .ok (.iload_n 1, 1) := by decide +kernel
theorem dX8_forge_1 : decode cX8_forge 1 = .ok (.invokestatic 218, 3) := by decide +kernel
theorem dX8_forge_4 : decode cX8_forge 4 = .ok (.ifCond .eq 12, 3) := by decide +kernel
theorem dX8_forge_7 : decode cX8_forge 7 = .ok (.iload_n 2, 1) := by decide +kernel
theorem dX8_forge_8 : decode cX8_forge 8 = .ok (.iconst 0, 1) := by decide +kernel
theorem dX8_forge_9 : decode cX8_forge 9 = .ok (.iconst 1, 1) := by decide +kernel
theorem dX8_forge_10 : decode cX8_forge 10 = .ok (.invokestatic 99, 3) := by decide +kernel
theorem dX8_forge_13 : decode cX8_forge 13 = .ok (.ifCond .ne 5, 3) := by decide +kernel
theorem dX8_forge_16 : decode cX8_forge 16 = .ok (.iconst (-1), 1) := by decide +kernel
theorem dX8_forge_17 : decode cX8_forge 17 = .ok (.ireturn, 1) := by decide +kernel
theorem dX8_forge_18 : decode cX8_forge 18 = .ok (.aload_n 0, 1) := by decide +kernel
theorem dX8_forge_19 : decode cX8_forge 19 = .ok (.getfield 86, 3) := by decide +kernel
theorem dX8_forge_22 : decode cX8_forge 22 = .ok (.iload_n 1, 1) := by decide +kernel
theorem dX8_forge_23 : decode cX8_forge 23 = .ok (.baload, 1) := by decide +kernel
theorem dX8_forge_24 : decode cX8_forge 24 = .ok (.ifCond .eq 7, 3) := by decide +kernel
theorem dX8_forge_27 : decode cX8_forge 27 = .ok (.iconst 1, 1) := by decide +kernel
theorem dX8_forge_28 : decode cX8_forge 28 = .ok (.goto 4, 3) := by decide +kernel
theorem dX8_forge_31 : decode cX8_forge 31 = .ok (.iconst 0, 1) := by decide +kernel
theorem dX8_forge_32 : decode cX8_forge 32 = .ok (.istore_n 3, 1) := by decide +kernel
theorem dX8_forge_33 : decode cX8_forge 33 = .ok (.aload_n 0, 1) := by decide +kernel
theorem dX8_forge_34 : decode cX8_forge 34 = .ok (.getfield 86, 3) := by decide +kernel
theorem dX8_forge_37 : decode cX8_forge 37 = .ok (.iload_n 1, 1) := by decide +kernel
theorem dX8_forge_38 : decode cX8_forge 38 = .ok (.iload_n 2, 1) := by decide +kernel
theorem dX8_forge_39 : decode cX8_forge 39 = .ok (.iconst 1, 1) := by decide +kernel
theorem dX8_forge_40 : decode cX8_forge 40 = .ok (.if_icmp .ne 7, 3) := by decide +kernel
theorem dX8_forge_43 : decode cX8_forge 43 = .ok (.iconst 1, 1) := by decide +kernel
theorem dX8_forge_44 : decode cX8_forge 44 = .ok (.goto 4, 3) := by decide +kernel
theorem dX8_forge_47 : decode cX8_forge 47 = .ok (.iconst 0, 1) := by decide +kernel
theorem dX8_forge_48 : decode cX8_forge 48 = .ok (.bastore, 1) := by decide +kernel
theorem dX8_forge_49 : decode cX8_forge 49 = .ok (.iload_n 3, 1) := by decide +kernel
theorem dX8_forge_50 : decode cX8_forge 50 = .ok (.ireturn, 1) := by decide +kernel
theorem dX8_trust_0 : decode cX8_trust 0 = .ok (.iload_n 1, 1) := by decide +kernel
theorem dX8_trust_1 : decode cX8_trust 1 = .ok (.invokestatic 218, 3) := by decide +kernel
theorem dX8_trust_4 : decode cX8_trust 4 = .ok (.ifCond .ne 5, 3) := by decide +kernel
theorem dX8_trust_7 : decode cX8_trust 7 = .ok (.iconst (-1), 1) := by decide +kernel
theorem dX8_trust_8 : decode cX8_trust 8 = .ok (.ireturn, 1) := by decide +kernel
theorem dX8_trust_9 : decode cX8_trust 9 = .ok (.aload_n 0, 1) := by decide +kernel
theorem dX8_trust_10 : decode cX8_trust 10 = .ok (.iload_n 1, 1) := by decide +kernel
theorem dX8_trust_11 : decode cX8_trust 11 = .ok (.invokevirtual 224, 3) := by decide +kernel
theorem dX8_trust_14 : decode cX8_trust 14 = .ok (.istore_n 2, 1) := by decide +kernel
theorem dX8_trust_15 : decode cX8_trust 15 = .ok (.iconst 0, 1) := by decide +kernel
theorem dX8_trust_16 : decode cX8_trust 16 = .ok (.istore_n 3, 1) := by decide +kernel
theorem dX8_trust_17 : decode cX8_trust 17 = .ok (.iload_n 3, 1) := by decide +kernel
theorem dX8_trust_18 : decode cX8_trust 18 = .ok (.bipush 30, 2) := by decide +kernel
theorem dX8_trust_20 : decode cX8_trust 20 = .ok (.if_icmp .ge 29, 3) := by decide +kernel
theorem dX8_trust_23 : decode cX8_trust 23 = .ok (.aload_n 0, 1) := by decide +kernel
theorem dX8_trust_24 : decode cX8_trust 24 = .ok (.getfield 89, 3) := by decide +kernel
theorem dX8_trust_27 : decode cX8_trust 27 = .ok (.iload_n 3, 1) := by decide +kernel
theorem dX8_trust_28 : decode cX8_trust 28 = .ok (.baload, 1) := by decide +kernel
theorem dX8_trust_29 : decode cX8_trust 29 = .ok (.ifCond .eq 14, 3) := by decide +kernel
theorem dX8_trust_32 : decode cX8_trust 32 = .ok (.aload_n 0, 1) := by decide +kernel
theorem dX8_trust_33 : decode cX8_trust 33 = .ok (.getfield 86, 3) := by decide +kernel
theorem dX8_trust_36 : decode cX8_trust 36 = .ok (.iload_n 3, 1) := by decide +kernel
theorem dX8_trust_37 : decode cX8_trust 37 = .ok (.baload, 1) := by decide +kernel
theorem dX8_trust_38 : decode cX8_trust 38 = .ok (.ifCond .eq 5, 3) := by decide +kernel
theorem dX8_trust_41 : decode cX8_trust 41 = .ok (.iconst 0, 1) := by decide +kernel
theorem dX8_trust_42 : decode cX8_trust 42 = .ok (.ireturn, 1) := by decide +kernel
theorem dX8_trust_43 : decode cX8_trust 43 = .ok (.iinc 3 1, 3) := by decide +kernel
theorem dX8_trust_46 : decode cX8_trust 46 = .ok (.goto (-29), 3) := by decide +kernel
theorem dX8_trust_49 : decode cX8_trust 49 = .ok (.iconst 1, 1) := by decide +kernel
theorem dX8_trust_50 : decode cX8_trust 50 = .ok (.ireturn, 1) := by decide +kernel
theorem dX8_heirs_0 : decode cX8_heirs 0 = .ok (.iload_n 1, 1) := by decide +kernel
theorem dX8_heirs_1 : decode cX8_heirs 1 = .ok (.invokestatic 218, 3) := by decide +kernel
theorem dX8_heirs_4 : decode cX8_heirs 4 = .ok (.ifCond .ne 5, 3) := by decide +kernel
theorem dX8_heirs_7 : decode cX8_heirs 7 = .ok (.iconst (-1), 1) := by decide +kernel
theorem dX8_heirs_8 : decode cX8_heirs 8 = .ok (.ireturn, 1) := by decide +kernel
theorem dX8_heirs_9 : decode cX8_heirs 9 = .ok (.iconst 0, 1) := by decide +kernel
theorem dX8_heirs_10 : decode cX8_heirs 10 = .ok (.istore_n 2, 1) := by decide +kernel
theorem dX8_heirs_11 : decode cX8_heirs 11 = .ok (.iconst 0, 1) := by decide +kernel
theorem dX8_heirs_12 : decode cX8_heirs 12 = .ok (.istore_n 3, 1) := by decide +kernel
theorem dX8_heirs_13 : decode cX8_heirs 13 = .ok (.iload_n 3, 1) := by decide +kernel
theorem dX8_heirs_14 : decode cX8_heirs 14 = .ok (.bipush 30, 2) := by decide +kernel
theorem dX8_heirs_16 : decode cX8_heirs 16 = .ok (.if_icmp .ge 38, 3) := by decide +kernel
theorem dX8_heirs_19 : decode cX8_heirs 19 = .ok (.aload_n 0, 1) := by decide +kernel
theorem dX8_heirs_20 : decode cX8_heirs 20 = .ok (.iload_n 3, 1) := by decide +kernel
theorem dX8_heirs_21 : decode cX8_heirs 21 = .ok (.invokevirtual 224, 3) := by decide +kernel
theorem dX8_heirs_24 : decode cX8_heirs 24 = .ok (.istore 4, 2) := by decide +kernel
theorem dX8_heirs_26 : decode cX8_heirs 26 = .ok (.iload_n 2, 1) := by decide +kernel
theorem dX8_heirs_27 : decode cX8_heirs 27 = .ok (.iload_n 3, 1) := by decide +kernel
theorem dX8_heirs_28 : decode cX8_heirs 28 = .ok (.iload_n 1, 1) := by decide +kernel
theorem dX8_heirs_29 : decode cX8_heirs 29 = .ok (.if_icmp .eq 16, 3) := by decide +kernel
theorem dX8_heirs_32 : decode cX8_heirs 32 = .ok (.aload_n 0, 1) := by decide +kernel
theorem dX8_heirs_33 : decode cX8_heirs 33 = .ok (.getfield 89, 3) := by decide +kernel
theorem dX8_heirs_36 : decode cX8_heirs 36 = .ok (.iload_n 1, 1) := by decide +kernel
theorem dX8_heirs_37 : decode cX8_heirs 37 = .ok (.baload, 1) := by decide +kernel
theorem dX8_heirs_38 : decode cX8_heirs 38 = .ok (.ifCond .eq 7, 3) := by decide +kernel
theorem dX8_heirs_41 : decode cX8_heirs 41 = .ok (.iconst 1, 1) := by decide +kernel
theorem dX8_heirs_42 : decode cX8_heirs 42 = .ok (.goto 4, 3) := by decide +kernel
theorem dX8_heirs_45 : decode cX8_heirs 45 = .ok (.iconst 0, 1) := by decide +kernel
theorem dX8_heirs_46 : decode cX8_heirs 46 = .ok (.iadd, 1) := by decide +kernel
theorem dX8_heirs_47 : decode cX8_heirs 47 = .ok (.istore_n 2, 1) := by decide +kernel
theorem dX8_heirs_48 : decode cX8_heirs 48 = .ok (.iinc 3 1, 3) := by decide +kernel
theorem dX8_heirs_51 : decode cX8_heirs 51 = .ok (.goto (-38), 3) := by decide +kernel
theorem dX8_heirs_54 : decode cX8_heirs 54 = .ok (.iload_n 2, 1) := by decide +kernel
theorem dX8_heirs_55 : decode cX8_heirs 55 = .ok (.ireturn, 1) := by decide +kernel
theorem dX8_count_0 : decode cX8_count 0 = .ok (.iconst 0, 1) := by decide +kernel
theorem dX8_count_1 : decode cX8_count 1 = .ok (.istore_n 2, 1) := by decide +kernel
theorem dX8_count_2 : decode cX8_count 2 = .ok (.iload_n 1, 1) := by decide +kernel
theorem dX8_count_3 : decode cX8_count 3 = .ok (.tableswitch 153 0 5 #[37, 42, 47, 80, 113, 118], 37) := by decide +kernel
theorem dX8_count_40 : decode cX8_count 40 = .ok (.aload_n 0, 1) := by decide +kernel
theorem dX8_count_41 : decode cX8_count 41 = .ok (.getfield 106, 3) := by decide +kernel
theorem dX8_count_44 : decode cX8_count 44 = .ok (.ireturn, 1) := by decide +kernel
theorem dX8_count_45 : decode cX8_count 45 = .ok (.aload_n 0, 1) := by decide +kernel
theorem dX8_count_46 : decode cX8_count 46 = .ok (.getfield 113, 3) := by decide +kernel
theorem dX8_count_49 : decode cX8_count 49 = .ok (.ireturn, 1) := by decide +kernel
theorem dX8_count_50 : decode cX8_count 50 = .ok (.iconst 0, 1) := by decide +kernel
theorem dX8_count_51 : decode cX8_count 51 = .ok (.istore_n 3, 1) := by decide +kernel
theorem dX8_count_52 : decode cX8_count 52 = .ok (.iload_n 3, 1) := by decide +kernel
theorem dX8_count_53 : decode cX8_count 53 = .ok (.bipush 30, 2) := by decide +kernel
theorem dX8_count_55 : decode cX8_count 55 = .ok (.if_icmp .ge 26, 3) := by decide +kernel
theorem dX8_count_58 : decode cX8_count 58 = .ok (.iload_n 2, 1) := by decide +kernel
theorem dX8_count_59 : decode cX8_count 59 = .ok (.aload_n 0, 1) := by decide +kernel
theorem dX8_count_60 : decode cX8_count 60 = .ok (.getfield 80, 3) := by decide +kernel
theorem dX8_count_63 : decode cX8_count 63 = .ok (.iload_n 3, 1) := by decide +kernel
theorem dX8_count_64 : decode cX8_count 64 = .ok (.iaload, 1) := by decide +kernel
theorem dX8_count_65 : decode cX8_count 65 = .ok (.ifCond .ge 7, 3) := by decide +kernel
theorem dX8_count_68 : decode cX8_count 68 = .ok (.iconst 1, 1) := by decide +kernel
theorem dX8_count_69 : decode cX8_count 69 = .ok (.goto 4, 3) := by decide +kernel
theorem dX8_count_72 : decode cX8_count 72 = .ok (.iconst 0, 1) := by decide +kernel
theorem dX8_count_73 : decode cX8_count 73 = .ok (.iadd, 1) := by decide +kernel
theorem dX8_count_74 : decode cX8_count 74 = .ok (.istore_n 2, 1) := by decide +kernel
theorem dX8_count_75 : decode cX8_count 75 = .ok (.iinc 3 1, 3) := by decide +kernel
theorem dX8_count_78 : decode cX8_count 78 = .ok (.goto (-26), 3) := by decide +kernel
theorem dX8_count_81 : decode cX8_count 81 = .ok (.iload_n 2, 1) := by decide +kernel
theorem dX8_count_82 : decode cX8_count 82 = .ok (.ireturn, 1) := by decide +kernel
theorem dX8_count_83 : decode cX8_count 83 = .ok (.iconst 0, 1) := by decide +kernel
theorem dX8_count_84 : decode cX8_count 84 = .ok (.istore_n 3, 1) := by decide +kernel
theorem dX8_count_85 : decode cX8_count 85 = .ok (.iload_n 3, 1) := by decide +kernel
theorem dX8_count_86 : decode cX8_count 86 = .ok (.bipush 30, 2) := by decide +kernel
theorem dX8_count_88 : decode cX8_count 88 = .ok (.if_icmp .ge 26, 3) := by decide +kernel
theorem dX8_count_91 : decode cX8_count 91 = .ok (.iload_n 2, 1) := by decide +kernel
theorem dX8_count_92 : decode cX8_count 92 = .ok (.aload_n 0, 1) := by decide +kernel
theorem dX8_count_93 : decode cX8_count 93 = .ok (.getfield 86, 3) := by decide +kernel
theorem dX8_count_96 : decode cX8_count 96 = .ok (.iload_n 3, 1) := by decide +kernel
theorem dX8_count_97 : decode cX8_count 97 = .ok (.baload, 1) := by decide +kernel
theorem dX8_count_98 : decode cX8_count 98 = .ok (.ifCond .eq 7, 3) := by decide +kernel
theorem dX8_count_101 : decode cX8_count 101 = .ok (.iconst 1, 1) := by decide +kernel
theorem dX8_count_102 : decode cX8_count 102 = .ok (.goto 4, 3) := by decide +kernel
theorem dX8_count_105 : decode cX8_count 105 = .ok (.iconst 0, 1) := by decide +kernel
theorem dX8_count_106 : decode cX8_count 106 = .ok (.iadd, 1) := by decide +kernel
theorem dX8_count_107 : decode cX8_count 107 = .ok (.istore_n 2, 1) := by decide +kernel
theorem dX8_count_108 : decode cX8_count 108 = .ok (.iinc 3 1, 3) := by decide +kernel
theorem dX8_count_111 : decode cX8_count 111 = .ok (.goto (-26), 3) := by decide +kernel
theorem dX8_count_114 : decode cX8_count 114 = .ok (.iload_n 2, 1) := by decide +kernel
theorem dX8_count_115 : decode cX8_count 115 = .ok (.ireturn, 1) := by decide +kernel
theorem dX8_count_116 : decode cX8_count 116 = .ok (.aload_n 0, 1) := by decide +kernel
theorem dX8_count_117 : decode cX8_count 117 = .ok (.getfield 103, 3) := by decide +kernel
theorem dX8_count_120 : decode cX8_count 120 = .ok (.ireturn, 1) := by decide +kernel
theorem dX8_count_121 : decode cX8_count 121 = .ok (.iconst 0, 1) := by decide +kernel
theorem dX8_count_122 : decode cX8_count 122 = .ok (.istore_n 3, 1) := by decide +kernel
theorem dX8_count_123 : decode cX8_count 123 = .ok (.iload_n 3, 1) := by decide +kernel
theorem dX8_count_124 : decode cX8_count 124 = .ok (.aload_n 0, 1) := by decide +kernel
theorem dX8_count_125 : decode cX8_count 125 = .ok (.getfield 106, 3) := by decide +kernel
theorem dX8_count_128 : decode cX8_count 128 = .ok (.if_icmp .ge 26, 3) := by decide +kernel
theorem dX8_count_131 : decode cX8_count 131 = .ok (.iload_n 2, 1) := by decide +kernel
theorem dX8_count_132 : decode cX8_count 132 = .ok (.aload_n 0, 1) := by decide +kernel
theorem dX8_count_133 : decode cX8_count 133 = .ok (.getfield 19, 3) := by decide +kernel
theorem dX8_count_136 : decode cX8_count 136 = .ok (.iload_n 3, 1) := by decide +kernel
theorem dX8_count_137 : decode cX8_count 137 = .ok (.baload, 1) := by decide +kernel
theorem dX8_count_138 : decode cX8_count 138 = .ok (.ifCond .eq 7, 3) := by decide +kernel
theorem dX8_count_141 : decode cX8_count 141 = .ok (.iconst 1, 1) := by decide +kernel
theorem dX8_count_142 : decode cX8_count 142 = .ok (.goto 4, 3) := by decide +kernel
theorem dX8_count_145 : decode cX8_count 145 = .ok (.iconst 0, 1) := by decide +kernel
theorem dX8_count_146 : decode cX8_count 146 = .ok (.iadd, 1) := by decide +kernel
theorem dX8_count_147 : decode cX8_count 147 = .ok (.istore_n 2, 1) := by decide +kernel
theorem dX8_count_148 : decode cX8_count 148 = .ok (.iinc 3 1, 3) := by decide +kernel
theorem dX8_count_151 : decode cX8_count 151 = .ok (.goto (-28), 3) := by decide +kernel
theorem dX8_count_154 : decode cX8_count 154 = .ok (.iload_n 2, 1) := by decide +kernel
theorem dX8_count_155 : decode cX8_count 155 = .ok (.ireturn, 1) := by decide +kernel
theorem dX8_count_156 : decode cX8_count 156 = .ok (.iconst (-1), 1) := by decide +kernel
theorem dX8_count_157 : decode cX8_count 157 = .ok (.ireturn, 1) := by decide +kernel
theorem dJ6_numberOfTrailingZeros_0f7a4_0 : decode cJ6_numberOfTrailingZeros_0f7a4 0 = .ok (.iload_n 0, 1) := by decide +kernel
theorem dJ6_numberOfTrailingZeros_0f7a4_1 : decode cJ6_numberOfTrailingZeros_0f7a4 1 = .ok (.iconst (-1), 1) := by decide +kernel
theorem dJ6_numberOfTrailingZeros_0f7a4_2 : decode cJ6_numberOfTrailingZeros_0f7a4 2 = .ok (.ixor, 1) := by decide +kernel
theorem dJ6_numberOfTrailingZeros_0f7a4_3 : decode cJ6_numberOfTrailingZeros_0f7a4 3 = .ok (.iload_n 0, 1) := by decide +kernel
theorem dJ6_numberOfTrailingZeros_0f7a4_4 : decode cJ6_numberOfTrailingZeros_0f7a4 4 = .ok (.iconst 1, 1) := by decide +kernel
theorem dJ6_numberOfTrailingZeros_0f7a4_5 : decode cJ6_numberOfTrailingZeros_0f7a4 5 = .ok (.isub, 1) := by decide +kernel
theorem dJ6_numberOfTrailingZeros_0f7a4_6 : decode cJ6_numberOfTrailingZeros_0f7a4 6 = .ok (.iand, 1) := by decide +kernel
theorem dJ6_numberOfTrailingZeros_0f7a4_7 : decode cJ6_numberOfTrailingZeros_0f7a4 7 = .ok (.istore_n 0, 1) := by decide +kernel
theorem dJ6_numberOfTrailingZeros_0f7a4_8 : decode cJ6_numberOfTrailingZeros_0f7a4 8 = .ok (.iload_n 0, 1) := by decide +kernel
theorem dJ6_numberOfTrailingZeros_0f7a4_9 : decode cJ6_numberOfTrailingZeros_0f7a4 9 = .ok (.ifCond .gt 8, 3) := by decide +kernel
theorem dJ6_numberOfTrailingZeros_0f7a4_12 : decode cJ6_numberOfTrailingZeros_0f7a4 12 = .ok (.iload_n 0, 1) := by decide +kernel
theorem dJ6_numberOfTrailingZeros_0f7a4_13 : decode cJ6_numberOfTrailingZeros_0f7a4 13 = .ok (.bipush 32, 2) := by decide +kernel
theorem dJ6_numberOfTrailingZeros_0f7a4_15 : decode cJ6_numberOfTrailingZeros_0f7a4 15 = .ok (.iand, 1) := by decide +kernel
theorem dJ6_numberOfTrailingZeros_0f7a4_16 : decode cJ6_numberOfTrailingZeros_0f7a4 16 = .ok (.ireturn, 1) := by decide +kernel
theorem dJ6_numberOfTrailingZeros_0f7a4_17 : decode cJ6_numberOfTrailingZeros_0f7a4 17 = .ok (.iconst 1, 1) := by decide +kernel
theorem dJ6_numberOfTrailingZeros_0f7a4_18 : decode cJ6_numberOfTrailingZeros_0f7a4 18 = .ok (.istore_n 1, 1) := by decide +kernel
theorem dJ6_numberOfTrailingZeros_0f7a4_19 : decode cJ6_numberOfTrailingZeros_0f7a4 19 = .ok (.iload_n 0, 1) := by decide +kernel
theorem dJ6_numberOfTrailingZeros_0f7a4_20 : decode cJ6_numberOfTrailingZeros_0f7a4 20 = .ok (.ldc_w 264, 3) := by decide +kernel
theorem dJ6_numberOfTrailingZeros_0f7a4_23 : decode cJ6_numberOfTrailingZeros_0f7a4 23 = .ok (.if_icmp .le 11, 3) := by decide +kernel
theorem dJ6_numberOfTrailingZeros_0f7a4_26 : decode cJ6_numberOfTrailingZeros_0f7a4 26 = .ok (.iinc 1 16, 3) := by decide +kernel
theorem dJ6_numberOfTrailingZeros_0f7a4_29 : decode cJ6_numberOfTrailingZeros_0f7a4 29 = .ok (.iload_n 0, 1) := by decide +kernel
theorem dJ6_numberOfTrailingZeros_0f7a4_30 : decode cJ6_numberOfTrailingZeros_0f7a4 30 = .ok (.bipush 16, 2) := by decide +kernel
theorem dJ6_numberOfTrailingZeros_0f7a4_32 : decode cJ6_numberOfTrailingZeros_0f7a4 32 = .ok (.iushr, 1) := by decide +kernel
theorem dJ6_numberOfTrailingZeros_0f7a4_33 : decode cJ6_numberOfTrailingZeros_0f7a4 33 = .ok (.istore_n 0, 1) := by decide +kernel
theorem dJ6_numberOfTrailingZeros_0f7a4_34 : decode cJ6_numberOfTrailingZeros_0f7a4 34 = .ok (.iload_n 0, 1) := by decide +kernel
theorem dJ6_numberOfTrailingZeros_0f7a4_35 : decode cJ6_numberOfTrailingZeros_0f7a4 35 = .ok (.sipush 256, 3) := by decide +kernel
theorem dJ6_numberOfTrailingZeros_0f7a4_38 : decode cJ6_numberOfTrailingZeros_0f7a4 38 = .ok (.if_icmp .le 11, 3) := by decide +kernel
theorem dJ6_numberOfTrailingZeros_0f7a4_41 : decode cJ6_numberOfTrailingZeros_0f7a4 41 = .ok (.iinc 1 8, 3) := by decide +kernel
theorem dJ6_numberOfTrailingZeros_0f7a4_44 : decode cJ6_numberOfTrailingZeros_0f7a4 44 = .ok (.iload_n 0, 1) := by decide +kernel
theorem dJ6_numberOfTrailingZeros_0f7a4_45 : decode cJ6_numberOfTrailingZeros_0f7a4 45 = .ok (.bipush 8, 2) := by decide +kernel
theorem dJ6_numberOfTrailingZeros_0f7a4_47 : decode cJ6_numberOfTrailingZeros_0f7a4 47 = .ok (.iushr, 1) := by decide +kernel
theorem dJ6_numberOfTrailingZeros_0f7a4_48 : decode cJ6_numberOfTrailingZeros_0f7a4 48 = .ok (.istore_n 0, 1) := by decide +kernel
theorem dJ6_numberOfTrailingZeros_0f7a4_49 : decode cJ6_numberOfTrailingZeros_0f7a4 49 = .ok (.iload_n 0, 1) := by decide +kernel
theorem dJ6_numberOfTrailingZeros_0f7a4_50 : decode cJ6_numberOfTrailingZeros_0f7a4 50 = .ok (.bipush 16, 2) := by decide +kernel
theorem dJ6_numberOfTrailingZeros_0f7a4_52 : decode cJ6_numberOfTrailingZeros_0f7a4 52 = .ok (.if_icmp .le 10, 3) := by decide +kernel
theorem dJ6_numberOfTrailingZeros_0f7a4_55 : decode cJ6_numberOfTrailingZeros_0f7a4 55 = .ok (.iinc 1 4, 3) := by decide +kernel
theorem dJ6_numberOfTrailingZeros_0f7a4_58 : decode cJ6_numberOfTrailingZeros_0f7a4 58 = .ok (.iload_n 0, 1) := by decide +kernel
theorem dJ6_numberOfTrailingZeros_0f7a4_59 : decode cJ6_numberOfTrailingZeros_0f7a4 59 = .ok (.iconst 4, 1) := by decide +kernel
theorem dJ6_numberOfTrailingZeros_0f7a4_60 : decode cJ6_numberOfTrailingZeros_0f7a4 60 = .ok (.iushr, 1) := by decide +kernel
theorem dJ6_numberOfTrailingZeros_0f7a4_61 : decode cJ6_numberOfTrailingZeros_0f7a4 61 = .ok (.istore_n 0, 1) := by decide +kernel
theorem dJ6_numberOfTrailingZeros_0f7a4_62 : decode cJ6_numberOfTrailingZeros_0f7a4 62 = .ok (.iload_n 0, 1) := by decide +kernel
theorem dJ6_numberOfTrailingZeros_0f7a4_63 : decode cJ6_numberOfTrailingZeros_0f7a4 63 = .ok (.iconst 4, 1) := by decide +kernel
theorem dJ6_numberOfTrailingZeros_0f7a4_64 : decode cJ6_numberOfTrailingZeros_0f7a4 64 = .ok (.if_icmp .le 10, 3) := by decide +kernel
theorem dJ6_numberOfTrailingZeros_0f7a4_67 : decode cJ6_numberOfTrailingZeros_0f7a4 67 = .ok (.iinc 1 2, 3) := by decide +kernel
theorem dJ6_numberOfTrailingZeros_0f7a4_70 : decode cJ6_numberOfTrailingZeros_0f7a4 70 = .ok (.iload_n 0, 1) := by decide +kernel
theorem dJ6_numberOfTrailingZeros_0f7a4_71 : decode cJ6_numberOfTrailingZeros_0f7a4 71 = .ok (.iconst 2, 1) := by decide +kernel
theorem dJ6_numberOfTrailingZeros_0f7a4_72 : decode cJ6_numberOfTrailingZeros_0f7a4 72 = .ok (.iushr, 1) := by decide +kernel
theorem dJ6_numberOfTrailingZeros_0f7a4_73 : decode cJ6_numberOfTrailingZeros_0f7a4 73 = .ok (.istore_n 0, 1) := by decide +kernel
theorem dJ6_numberOfTrailingZeros_0f7a4_74 : decode cJ6_numberOfTrailingZeros_0f7a4 74 = .ok (.iload_n 1, 1) := by decide +kernel
theorem dJ6_numberOfTrailingZeros_0f7a4_75 : decode cJ6_numberOfTrailingZeros_0f7a4 75 = .ok (.iload_n 0, 1) := by decide +kernel
theorem dJ6_numberOfTrailingZeros_0f7a4_76 : decode cJ6_numberOfTrailingZeros_0f7a4 76 = .ok (.iconst 1, 1) := by decide +kernel
theorem dJ6_numberOfTrailingZeros_0f7a4_77 : decode cJ6_numberOfTrailingZeros_0f7a4 77 = .ok (.iushr, 1) := by decide +kernel
theorem dJ6_numberOfTrailingZeros_0f7a4_78 : decode cJ6_numberOfTrailingZeros_0f7a4 78 = .ok (.iadd, 1) := by decide +kernel
theorem dJ6_numberOfTrailingZeros_0f7a4_79 : decode cJ6_numberOfTrailingZeros_0f7a4 79 = .ok (.ireturn, 1) := by decide +kernel
theorem dJ6_bitCount_0f7a4_0 : decode cJ6_bitCount_0f7a4 0 = .ok (.iload_n 0, 1) := by decide +kernel
theorem dJ6_bitCount_0f7a4_1 : decode cJ6_bitCount_0f7a4 1 = .ok (.iload_n 0, 1) := by decide +kernel
theorem dJ6_bitCount_0f7a4_2 : decode cJ6_bitCount_0f7a4 2 = .ok (.iconst 1, 1) := by decide +kernel
theorem dJ6_bitCount_0f7a4_3 : decode cJ6_bitCount_0f7a4 3 = .ok (.iushr, 1) := by decide +kernel
theorem dJ6_bitCount_0f7a4_4 : decode cJ6_bitCount_0f7a4 4 = .ok (.ldc_w 265, 3) := by decide +kernel
theorem dJ6_bitCount_0f7a4_7 : decode cJ6_bitCount_0f7a4 7 = .ok (.iand, 1) := by decide +kernel
theorem dJ6_bitCount_0f7a4_8 : decode cJ6_bitCount_0f7a4 8 = .ok (.isub, 1) := by decide +kernel
theorem dJ6_bitCount_0f7a4_9 : decode cJ6_bitCount_0f7a4 9 = .ok (.istore_n 0, 1) := by decide +kernel
theorem dJ6_bitCount_0f7a4_10 : decode cJ6_bitCount_0f7a4 10 = .ok (.iload_n 0, 1) := by decide +kernel
theorem dJ6_bitCount_0f7a4_11 : decode cJ6_bitCount_0f7a4 11 = .ok (.ldc_w 266, 3) := by decide +kernel
theorem dJ6_bitCount_0f7a4_14 : decode cJ6_bitCount_0f7a4 14 = .ok (.iand, 1) := by decide +kernel
theorem dJ6_bitCount_0f7a4_15 : decode cJ6_bitCount_0f7a4 15 = .ok (.iload_n 0, 1) := by decide +kernel
theorem dJ6_bitCount_0f7a4_16 : decode cJ6_bitCount_0f7a4 16 = .ok (.iconst 2, 1) := by decide +kernel
theorem dJ6_bitCount_0f7a4_17 : decode cJ6_bitCount_0f7a4 17 = .ok (.iushr, 1) := by decide +kernel
theorem dJ6_bitCount_0f7a4_18 : decode cJ6_bitCount_0f7a4 18 = .ok (.ldc_w 266, 3) := by decide +kernel
theorem dJ6_bitCount_0f7a4_21 : decode cJ6_bitCount_0f7a4 21 = .ok (.iand, 1) := by decide +kernel
theorem dJ6_bitCount_0f7a4_22 : decode cJ6_bitCount_0f7a4 22 = .ok (.iadd, 1) := by decide +kernel
theorem dJ6_bitCount_0f7a4_23 : decode cJ6_bitCount_0f7a4 23 = .ok (.istore_n 0, 1) := by decide +kernel
theorem dJ6_bitCount_0f7a4_24 : decode cJ6_bitCount_0f7a4 24 = .ok (.iload_n 0, 1) := by decide +kernel
theorem dJ6_bitCount_0f7a4_25 : decode cJ6_bitCount_0f7a4 25 = .ok (.iload_n 0, 1) := by decide +kernel
theorem dJ6_bitCount_0f7a4_26 : decode cJ6_bitCount_0f7a4 26 = .ok (.iconst 4, 1) := by decide +kernel
theorem dJ6_bitCount_0f7a4_27 : decode cJ6_bitCount_0f7a4 27 = .ok (.iushr, 1) := by decide +kernel
theorem dJ6_bitCount_0f7a4_28 : decode cJ6_bitCount_0f7a4 28 = .ok (.iadd, 1) := by decide +kernel
theorem dJ6_bitCount_0f7a4_29 : decode cJ6_bitCount_0f7a4 29 = .ok (.ldc_w 267, 3) := by decide +kernel
theorem dJ6_bitCount_0f7a4_32 : decode cJ6_bitCount_0f7a4 32 = .ok (.iand, 1) := by decide +kernel
theorem dJ6_bitCount_0f7a4_33 : decode cJ6_bitCount_0f7a4 33 = .ok (.istore_n 0, 1) := by decide +kernel
theorem dJ6_bitCount_0f7a4_34 : decode cJ6_bitCount_0f7a4 34 = .ok (.iload_n 0, 1) := by decide +kernel
theorem dJ6_bitCount_0f7a4_35 : decode cJ6_bitCount_0f7a4 35 = .ok (.iload_n 0, 1) := by decide +kernel
theorem dJ6_bitCount_0f7a4_36 : decode cJ6_bitCount_0f7a4 36 = .ok (.bipush 8, 2) := by decide +kernel
theorem dJ6_bitCount_0f7a4_38 : decode cJ6_bitCount_0f7a4 38 = .ok (.iushr, 1) := by decide +kernel
theorem dJ6_bitCount_0f7a4_39 : decode cJ6_bitCount_0f7a4 39 = .ok (.iadd, 1) := by decide +kernel
theorem dJ6_bitCount_0f7a4_40 : decode cJ6_bitCount_0f7a4 40 = .ok (.istore_n 0, 1) := by decide +kernel
theorem dJ6_bitCount_0f7a4_41 : decode cJ6_bitCount_0f7a4 41 = .ok (.iload_n 0, 1) := by decide +kernel
theorem dJ6_bitCount_0f7a4_42 : decode cJ6_bitCount_0f7a4 42 = .ok (.iload_n 0, 1) := by decide +kernel
theorem dJ6_bitCount_0f7a4_43 : decode cJ6_bitCount_0f7a4 43 = .ok (.bipush 16, 2) := by decide +kernel
theorem dJ6_bitCount_0f7a4_45 : decode cJ6_bitCount_0f7a4 45 = .ok (.iushr, 1) := by decide +kernel
theorem dJ6_bitCount_0f7a4_46 : decode cJ6_bitCount_0f7a4 46 = .ok (.iadd, 1) := by decide +kernel
theorem dJ6_bitCount_0f7a4_47 : decode cJ6_bitCount_0f7a4 47 = .ok (.istore_n 0, 1) := by decide +kernel
theorem dJ6_bitCount_0f7a4_48 : decode cJ6_bitCount_0f7a4 48 = .ok (.iload_n 0, 1) := by decide +kernel
theorem dJ6_bitCount_0f7a4_49 : decode cJ6_bitCount_0f7a4 49 = .ok (.bipush 63, 2) := by decide +kernel
theorem dJ6_bitCount_0f7a4_51 : decode cJ6_bitCount_0f7a4 51 = .ok (.iand, 1) := by decide +kernel
theorem dJ6_bitCount_0f7a4_52 : decode cJ6_bitCount_0f7a4 52 = .ok (.ireturn, 1) := by decide +kernel
theorem dJ9_max_7cf53_0 : decode cJ9_max_7cf53 0 = .ok (.iload_n 0, 1) := by decide +kernel
theorem dJ9_max_7cf53_1 : decode cJ9_max_7cf53 1 = .ok (.iload_n 1, 1) := by decide +kernel
theorem dJ9_max_7cf53_2 : decode cJ9_max_7cf53 2 = .ok (.if_icmp .lt 7, 3) := by decide +kernel
theorem dJ9_max_7cf53_5 : decode cJ9_max_7cf53 5 = .ok (.iload_n 0, 1) := by decide +kernel
theorem dJ9_max_7cf53_6 : decode cJ9_max_7cf53 6 = .ok (.goto 4, 3) := by decide +kernel
theorem dJ9_max_7cf53_9 : decode cJ9_max_7cf53 9 = .ok (.iload_n 1, 1) := by decide +kernel
theorem dJ9_max_7cf53_10 : decode cJ9_max_7cf53 10 = .ok (.ireturn, 1) := by decide +kernel
theorem dJ9_min_7cf53_0 : decode cJ9_min_7cf53 0 = .ok (.iload_n 0, 1) := by decide +kernel
theorem dJ9_min_7cf53_1 : decode cJ9_min_7cf53 1 = .ok (.iload_n 1, 1) := by decide +kernel
theorem dJ9_min_7cf53_2 : decode cJ9_min_7cf53 2 = .ok (.if_icmp .gt 7, 3) := by decide +kernel
theorem dJ9_min_7cf53_5 : decode cJ9_min_7cf53 5 = .ok (.iload_n 0, 1) := by decide +kernel
theorem dJ9_min_7cf53_6 : decode cJ9_min_7cf53 6 = .ok (.goto 4, 3) := by decide +kernel
theorem dJ9_min_7cf53_9 : decode cJ9_min_7cf53 9 = .ok (.iload_n 1, 1) := by decide +kernel
theorem dJ9_min_7cf53_10 : decode cJ9_min_7cf53 10 = .ok (.ireturn, 1) := by decide +kernel
theorem dJ7_fill_d0a16_0 : decode cJ7_fill_d0a16 0 = .ok (.iconst 0, 1) := by decide +kernel
theorem dJ7_fill_d0a16_1 : decode cJ7_fill_d0a16 1 = .ok (.istore_n 3, 1) := by decide +kernel
theorem dJ7_fill_d0a16_2 : decode cJ7_fill_d0a16 2 = .ok (.aload_n 0, 1) := by decide +kernel
theorem dJ7_fill_d0a16_3 : decode cJ7_fill_d0a16 3 = .ok (.arraylength, 1) := by decide +kernel
theorem dJ7_fill_d0a16_4 : decode cJ7_fill_d0a16 4 = .ok (.istore 4, 2) := by decide +kernel
theorem dJ7_fill_d0a16_6 : decode cJ7_fill_d0a16 6 = .ok (.iload_n 3, 1) := by decide +kernel
theorem dJ7_fill_d0a16_7 : decode cJ7_fill_d0a16 7 = .ok (.iload 4, 2) := by decide +kernel
theorem dJ7_fill_d0a16_9 : decode cJ7_fill_d0a16 9 = .ok (.if_icmp .ge 13, 3) := by decide +kernel
theorem dJ7_fill_d0a16_12 : decode cJ7_fill_d0a16 12 = .ok (.aload_n 0, 1) := by decide +kernel
theorem dJ7_fill_d0a16_13 : decode cJ7_fill_d0a16 13 = .ok (.iload_n 3, 1) := by decide +kernel
theorem dJ7_fill_d0a16_14 : decode cJ7_fill_d0a16 14 = .ok (.lload_n 1, 1) := by decide +kernel
theorem dJ7_fill_d0a16_15 : decode cJ7_fill_d0a16 15 = .ok (.lastore, 1) := by decide +kernel
theorem dJ7_fill_d0a16_16 : decode cJ7_fill_d0a16 16 = .ok (.iinc 3 1, 3) := by decide +kernel
theorem dJ7_fill_d0a16_19 : decode cJ7_fill_d0a16 19 = .ok (.goto (-13), 3) := by decide +kernel
theorem dJ7_fill_d0a16_22 : decode cJ7_fill_d0a16 22 = .ok (.return_, 1) := by decide +kernel
theorem dJ7_fill_53178_0 : decode cJ7_fill_53178 0 = .ok (.iconst 0, 1) := by decide +kernel
theorem dJ7_fill_53178_1 : decode cJ7_fill_53178 1 = .ok (.istore_n 2, 1) := by decide +kernel
theorem dJ7_fill_53178_2 : decode cJ7_fill_53178 2 = .ok (.aload_n 0, 1) := by decide +kernel
theorem dJ7_fill_53178_3 : decode cJ7_fill_53178 3 = .ok (.arraylength, 1) := by decide +kernel
theorem dJ7_fill_53178_4 : decode cJ7_fill_53178 4 = .ok (.istore_n 3, 1) := by decide +kernel
theorem dJ7_fill_53178_5 : decode cJ7_fill_53178 5 = .ok (.iload_n 2, 1) := by decide +kernel
theorem dJ7_fill_53178_6 : decode cJ7_fill_53178 6 = .ok (.iload_n 3, 1) := by decide +kernel
theorem dJ7_fill_53178_7 : decode cJ7_fill_53178 7 = .ok (.if_icmp .ge 13, 3) := by decide +kernel
theorem dJ7_fill_53178_10 : decode cJ7_fill_53178 10 = .ok (.aload_n 0, 1) := by decide +kernel
theorem dJ7_fill_53178_11 : decode cJ7_fill_53178 11 = .ok (.iload_n 2, 1) := by decide +kernel
theorem dJ7_fill_53178_12 : decode cJ7_fill_53178 12 = .ok (.iload_n 1, 1) := by decide +kernel
theorem dJ7_fill_53178_13 : decode cJ7_fill_53178 13 = .ok (.iastore, 1) := by decide +kernel
theorem dJ7_fill_53178_14 : decode cJ7_fill_53178 14 = .ok (.iinc 2 1, 3) := by decide +kernel
theorem dJ7_fill_53178_17 : decode cJ7_fill_53178 17 = .ok (.goto (-12), 3) := by decide +kernel
theorem dJ7_fill_53178_20 : decode cJ7_fill_53178 20 = .ok (.return_, 1) := by decide +kernel
abbrev vwCl : List vw_C := [(RX0, TX0, 7), (RX1, TX1, 7), (RX2, TX2, 3), (RX3, TX3, 3), (RX4, TX4, 10), (RX5, TX5, 3), (RX6, TX6, 4), (RX7, TX7, 8), (RX8, TX8, 33)]
