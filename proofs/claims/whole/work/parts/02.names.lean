def RX0 : String := "RuleShuttle$Change"
def TX0 : u_T := fun k => match k with
  | 0 => ("RuleShuttle$Change", "marked", "[Z", true)
  | 1 => ("RuleShuttle$Change", "other", "[Z", true)
  | 2 => ("RuleShuttle$Change", "gone", "[Z", true)
  | 3 => ("RuleShuttle$Change", "stood", "[I", true)
  | 4 => ("RuleShuttle$Change", "first", "I", false)
  | 5 => ("RuleShuttle$Change", "went", "I", false)
  | 6 => ("RuleShuttle$Change", "reckoned", "I", false)
  | _ => ("RuleShuttle$Change", "altered", "I", false)
def tyX0 : Nat → FieldType := fun k => match k with
  | 0 => .array .boolean
  | 1 => .array .boolean
  | 2 => .array .boolean
  | 3 => .array .int
  | 4 => .int
  | 5 => .int
  | 6 => .int
  | _ => .int
abbrev wsX00 : List Cond := u_ws RX0 TX0 8
theorem nmX0 : ∀ a, a < 8 → ∀ b, b < 8 → a ≠ b → (TX0 a).2.1 ≠ (TX0 b).2.1 := by decide +kernel
theorem tyX0_ok : ∀ k, k < 8 → parseFieldDescriptor (TX0 k).2.2.1 = some (tyX0 k) := by decide +kernel
abbrev cX0_init : ByteArray := prog_2_method_1_code
def yX0_init : MethodName := ⟨RX0, "<init>", "()V"⟩
abbrev cX0_begin : ByteArray := prog_2_method_2_code
def yX0_begin : MethodName := ⟨RX0, "begin", "(I)V"⟩
abbrev cX0_beginGraft : ByteArray := prog_2_method_3_code
def yX0_beginGraft : MethodName := ⟨RX0, "beginGraft", "(IIII)V"⟩
abbrev cX0_mark : ByteArray := prog_2_method_4_code
def yX0_mark : MethodName := ⟨RX0, "mark", "(I)V"⟩
abbrev cX0_markAskingOwn : ByteArray := prog_2_method_5_code
def yX0_markAskingOwn : MethodName := ⟨RX0, "markAskingOwn", "(LRuleShuttle$Grammar;LRuleShuttle$Tree;I)V"⟩
abbrev cX0_markGraft : ByteArray := prog_2_method_6_code
def yX0_markGraft : MethodName := ⟨RX0, "markGraft", "(LRuleShuttle$Tree;LRuleShuttle$Tree;LRuleShuttle$Knots;)V"⟩
abbrev cX0_findGone : ByteArray := prog_2_method_7_code
def yX0_findGone : MethodName := ⟨RX0, "findGone", "(LRuleShuttle$Tree;LRuleShuttle$Knots;)V"⟩
abbrev cX0_isNew : ByteArray := prog_2_method_8_code
def yX0_isNew : MethodName := ⟨RX0, "isNew", "(I)Z"⟩
abbrev cX0_reckon : ByteArray := prog_2_method_9_code
def yX0_reckon : MethodName := ⟨RX0, "reckon", "(LRuleShuttle$Tree;LRuleShuttle$Work;LRuleShuttle$Work;)V"⟩
abbrev cX0_isAnew : ByteArray := prog_2_method_10_code
def yX0_isAnew : MethodName := ⟨RX0, "isAnew", "(LRuleShuttle$Tree;LRuleShuttle$Knots;I)Z"⟩
abbrev cX0_hangsOnOther : ByteArray := prog_2_method_11_code
def yX0_hangsOnOther : MethodName := ⟨RX0, "hangsOnOther", "(LRuleShuttle$Tree;I)Z"⟩
abbrev cX0_count : ByteArray := prog_2_method_12_code
def yX0_count : MethodName := ⟨RX0, "count", "(ILRuleShuttle$Work;LRuleShuttle$Work;)V"⟩
abbrev cX0_keep : ByteArray := prog_2_method_13_code
def yX0_keep : MethodName := ⟨RX0, "keep", "(ILRuleShuttle$Work;LRuleShuttle$Work;)V"⟩
abbrev cX0_stoodFor : ByteArray := prog_2_method_14_code
def yX0_stoodFor : MethodName := ⟨RX0, "stoodFor", "(I)I"⟩
def RX1 : String := "RuleShuttle$Grammar"
def TX1 : u_T := fun k => match k with
  | 0 => ("RuleShuttle$Grammar", "symbols", "I", false)
  | 1 => ("RuleShuttle$Grammar", "prods", "I", false)
  | 2 => ("RuleShuttle$Grammar", "codes", "I", false)
  | 3 => ("RuleShuttle$Grammar", "symbolNames", "[J", true)
  | 4 => ("RuleShuttle$Grammar", "attributeNames", "[J", true)
  | 5 => ("RuleShuttle$Grammar", "prodNames", "[J", true)
  | 6 => ("RuleShuttle$Grammar", "ins", "[I", true)
  | 7 => ("RuleShuttle$Grammar", "outs", "[I", true)
  | 8 => ("RuleShuttle$Grammar", "sides", "[I", true)
  | 9 => ("RuleShuttle$Grammar", "symbolAt", "[I", true)
  | 10 => ("RuleShuttle$Grammar", "used", "[I", true)
  | 11 => ("RuleShuttle$Grammar", "tellable", "[I", true)
  | 12 => ("RuleShuttle$Grammar", "told", "[I", true)
  | 13 => ("RuleShuttle$Grammar", "askOwn", "[I", true)
  | 14 => ("RuleShuttle$Grammar", "asks", "[I", true)
  | 15 => ("RuleShuttle$Grammar", "askedBy", "[I", true)
  | 16 => ("RuleShuttle$Grammar", "codeFrom", "[I", true)
  | 17 => ("RuleShuttle$Grammar", "codeTo", "[I", true)
  | _ => ("RuleShuttle$Grammar", "code", "[I", true)
def tyX1 : Nat → FieldType := fun k => match k with
  | 0 => .int
  | 1 => .int
  | 2 => .int
  | 3 => .array .long
  | 4 => .array .long
  | 5 => .array .long
  | 6 => .array .int
  | 7 => .array .int
  | 8 => .array .int
  | 9 => .array .int
  | 10 => .array .int
  | 11 => .array .int
  | 12 => .array .int
  | 13 => .array .int
  | 14 => .array .int
  | 15 => .array .int
  | 16 => .array .int
  | 17 => .array .int
  | _ => .array .int
abbrev wsX10 : List Cond := u_ws RX1 TX1 19
theorem nmX1 : ∀ a, a < 19 → ∀ b, b < 19 → a ≠ b → (TX1 a).2.1 ≠ (TX1 b).2.1 := by decide +kernel
theorem tyX1_ok : ∀ k, k < 19 → parseFieldDescriptor (TX1 k).2.2.1 = some (tyX1 k) := by decide +kernel
abbrev cX1_init : ByteArray := prog_3_method_1_code
def yX1_init : MethodName := ⟨RX1, "<init>", "()V"⟩
abbrev cX1_clear : ByteArray := prog_3_method_2_code
def yX1_clear : MethodName := ⟨RX1, "clear", "()V"⟩
abbrev cX1_hasSymbol : ByteArray := prog_3_method_3_code
def yX1_hasSymbol : MethodName := ⟨RX1, "hasSymbol", "(I)Z"⟩
abbrev cX1_hasAttribute : ByteArray := prog_3_method_4_code
def yX1_hasAttribute : MethodName := ⟨RX1, "hasAttribute", "(II)Z"⟩
abbrev cX1_hasProduction : ByteArray := prog_3_method_5_code
def yX1_hasProduction : MethodName := ⟨RX1, "hasProduction", "(I)Z"⟩
abbrev cX1_hasOcc : ByteArray := prog_3_method_6_code
def yX1_hasOcc : MethodName := ⟨RX1, "hasOcc", "(II)Z"⟩
abbrev cX1_side : ByteArray := prog_3_method_7_code
def yX1_side : MethodName := ⟨RX1, "side", "(II)I"⟩
abbrev cX1_children : ByteArray := prog_3_method_8_code
def yX1_children : MethodName := ⟨RX1, "children", "(I)I"⟩
abbrev cX1_insOf : ByteArray := prog_3_method_9_code
def yX1_insOf : MethodName := ⟨RX1, "insOf", "(I)I"⟩
abbrev cX1_outsOf : ByteArray := prog_3_method_10_code
def yX1_outsOf : MethodName := ⟨RX1, "outsOf", "(I)I"⟩
abbrev cX1_leftSides : ByteArray := prog_3_method_11_code
def yX1_leftSides : MethodName := ⟨RX1, "leftSides", "(I)I"⟩
abbrev cX1_allTold : ByteArray := prog_3_method_12_code
def yX1_allTold : MethodName := ⟨RX1, "allTold", "()I"⟩
abbrev cX1_findSymbol : ByteArray := prog_3_method_13_code
def yX1_findSymbol : MethodName := ⟨RX1, "findSymbol", "(J)I"⟩
abbrev cX1_findAttribute : ByteArray := prog_3_method_14_code
def yX1_findAttribute : MethodName := ⟨RX1, "findAttribute", "(IJ)I"⟩
abbrev cX1_findProduction : ByteArray := prog_3_method_15_code
def yX1_findProduction : MethodName := ⟨RX1, "findProduction", "(J)I"⟩
abbrev cX1_addSymbol : ByteArray := prog_3_method_16_code
def yX1_addSymbol : MethodName := ⟨RX1, "addSymbol", "(J)V"⟩
abbrev cX1_addAttribute : ByteArray := prog_3_method_17_code
def yX1_addAttribute : MethodName := ⟨RX1, "addAttribute", "(IJZ)V"⟩
abbrev cX1_addProduction : ByteArray := prog_3_method_18_code
def yX1_addProduction : MethodName := ⟨RX1, "addProduction", "(J)V"⟩
abbrev cX1_addSide : ByteArray := prog_3_method_19_code
def yX1_addSide : MethodName := ⟨RX1, "addSide", "(II)V"⟩
abbrev cX1_addAsk : ByteArray := prog_3_method_20_code
def yX1_addAsk : MethodName := ⟨RX1, "addAsk", "(III)V"⟩
abbrev cX1_beginCode : ByteArray := prog_3_method_21_code
def yX1_beginCode : MethodName := ⟨RX1, "beginCode", "(II)V"⟩
abbrev cX1_addCode : ByteArray := prog_3_method_22_code
def yX1_addCode : MethodName := ⟨RX1, "addCode", "(I)V"⟩
abbrev cX1_endCode : ByteArray := prog_3_method_23_code
def yX1_endCode : MethodName := ⟨RX1, "endCode", "(II)V"⟩
def RX2 : String := "RuleShuttle$GrammarReader"
def TX2 : u_T := fun k => match k with
  | 0 => ("RuleShuttle$GrammarReader", "tape", "LRuleShuttle$Tape;", false)
  | 1 => ("RuleShuttle$GrammarReader", "g", "LRuleShuttle$Grammar;", false)
  | 2 => ("RuleShuttle$GrammarReader", "p", "I", false)
  | 3 => ("RuleShuttle$GrammarReader", "occ", "I", false)
  | _ => ("RuleShuttle$GrammarReader", "parts", "I", false)
def tyX2 : Nat → FieldType := fun k => match k with
  | 0 => .object "RuleShuttle$Tape"
  | 1 => .object "RuleShuttle$Grammar"
  | 2 => .int
  | 3 => .int
  | _ => .int
abbrev wsX20 : List Cond := u_ws RX2 TX2 5
theorem nmX2 : ∀ a, a < 5 → ∀ b, b < 5 → a ≠ b → (TX2 a).2.1 ≠ (TX2 b).2.1 := by decide +kernel
theorem tyX2_ok : ∀ k, k < 5 → parseFieldDescriptor (TX2 k).2.2.1 = some (tyX2 k) := by decide +kernel
abbrev cX2_init : ByteArray := prog_4_method_1_code
def yX2_init : MethodName := ⟨RX2, "<init>", "()V"⟩
abbrev cX2_read : ByteArray := prog_4_method_2_code
def yX2_read : MethodName := ⟨RX2, "read", "(LRuleShuttle$Tape;LRuleShuttle$Grammar;)Z"⟩
abbrev cX2_readSymbol : ByteArray := prog_4_method_3_code
def yX2_readSymbol : MethodName := ⟨RX2, "readSymbol", "()Z"⟩
abbrev cX2_readAttributes : ByteArray := prog_4_method_4_code
def yX2_readAttributes : MethodName := ⟨RX2, "readAttributes", "(Z)Z"⟩
abbrev cX2_readAttribute : ByteArray := prog_4_method_5_code
def yX2_readAttribute : MethodName := ⟨RX2, "readAttribute", "(Z)Z"⟩
abbrev cX2_readProduction : ByteArray := prog_4_method_6_code
def yX2_readProduction : MethodName := ⟨RX2, "readProduction", "()Z"⟩
abbrev cX2_readSide : ByteArray := prog_4_method_7_code
def yX2_readSide : MethodName := ⟨RX2, "readSide", "()Z"⟩
abbrev cX2_readRule : ByteArray := prog_4_method_8_code
def yX2_readRule : MethodName := ⟨RX2, "readRule", "()Z"⟩
abbrev cX2_seekOcc : ByteArray := prog_4_method_9_code
def yX2_seekOcc : MethodName := ⟨RX2, "seekOcc", "()I"⟩
abbrev cX2_positionStands : ByteArray := prog_4_method_10_code
def yX2_positionStands : MethodName := ⟨RX2, "positionStands", "()Z"⟩
abbrev cX2_readE : ByteArray := prog_4_method_11_code
def yX2_readE : MethodName := ⟨RX2, "readE", "(I)Z"⟩
abbrev cX2_readPart : ByteArray := prog_4_method_12_code
def yX2_readPart : MethodName := ⟨RX2, "readPart", "(I)Z"⟩
abbrev cX2_readBracket : ByteArray := prog_4_method_13_code
def yX2_readBracket : MethodName := ⟨RX2, "readBracket", "(II)Z"⟩
abbrev cX2_readLeaf : ByteArray := prog_4_method_14_code
def yX2_readLeaf : MethodName := ⟨RX2, "readLeaf", "()Z"⟩
abbrev cX2_operatorHere : ByteArray := prog_4_method_15_code
def yX2_operatorHere : MethodName := ⟨RX2, "operatorHere", "()I"⟩
def RX3 : String := "RuleShuttle$Hanging"
def TX3 : u_T := fun k => match k with
  | 0 => ("RuleShuttle$Hanging", "among", "[I", true)
  | 1 => ("RuleShuttle$Hanging", "closed", "[I", true)
  | 2 => ("RuleShuttle$Hanging", "circleProduction", "I", false)
  | _ => ("RuleShuttle$Hanging", "circleOcc", "I", false)
def tyX3 : Nat → FieldType := fun k => match k with
  | 0 => .array .int
  | 1 => .array .int
  | 2 => .int
  | _ => .int
abbrev wsX30 : List Cond := u_ws RX3 TX3 4
theorem nmX3 : ∀ a, a < 4 → ∀ b, b < 4 → a ≠ b → (TX3 a).2.1 ≠ (TX3 b).2.1 := by decide +kernel
theorem tyX3_ok : ∀ k, k < 4 → parseFieldDescriptor (TX3 k).2.2.1 = some (tyX3 k) := by decide +kernel
abbrev cX3_init : ByteArray := prog_5_method_1_code
def yX3_init : MethodName := ⟨RX3, "<init>", "()V"⟩
abbrev cX3_find : ByteArray := prog_5_method_2_code
def yX3_find : MethodName := ⟨RX3, "find", "(LRuleShuttle$Grammar;)V"⟩
abbrev cX3_close : ByteArray := prog_5_method_3_code
def yX3_close : MethodName := ⟨RX3, "close", "([III)V"⟩
abbrev cX3_layRows : ByteArray := prog_5_method_4_code
def yX3_layRows : MethodName := ⟨RX3, "layRows", "(LRuleShuttle$Grammar;I)V"⟩
abbrev cX3_gather : ByteArray := prog_5_method_5_code
def yX3_gather : MethodName := ⟨RX3, "gather", "(LRuleShuttle$Grammar;I)Z"⟩
abbrev cX3_firstRound : ByteArray := prog_5_method_6_code
def yX3_firstRound : MethodName := ⟨RX3, "firstRound", "([III)I"⟩
abbrev cX3_findCircle : ByteArray := prog_5_method_7_code
def yX3_findCircle : MethodName := ⟨RX3, "findCircle", "(LRuleShuttle$Grammar;)V"⟩
def RX4 : String := "RuleShuttle$Knots"
def TX4 : u_T := fun k => match k with
  | 0 => ("RuleShuttle$Knots", "order", "[I", true)
  | 1 => ("RuleShuttle$Knots", "from", "[I", true)
  | 2 => ("RuleShuttle$Knots", "groupOf", "[I", true)
  | 3 => ("RuleShuttle$Knots", "tied", "[Z", true)
  | 4 => ("RuleShuttle$Knots", "groups", "I", false)
  | 5 => ("RuleShuttle$Knots", "many", "I", false)
  | 6 => ("RuleShuttle$Knots", "t", "LRuleShuttle$Tree;", false)
  | 7 => ("RuleShuttle$Knots", "mark", "[I", true)
  | 8 => ("RuleShuttle$Knots", "low", "[I", true)
  | 9 => ("RuleShuttle$Knots", "open", "[I", true)
  | 10 => ("RuleShuttle$Knots", "opened", "I", false)
  | 11 => ("RuleShuttle$Knots", "path", "[I", true)
  | 12 => ("RuleShuttle$Knots", "rest", "[I", true)
  | 13 => ("RuleShuttle$Knots", "steps", "I", false)
  | 14 => ("RuleShuttle$Knots", "time", "I", false)
  | _ => ("RuleShuttle$Knots", "lengths", "[I", true)
def tyX4 : Nat → FieldType := fun k => match k with
  | 0 => .array .int
  | 1 => .array .int
  | 2 => .array .int
  | 3 => .array .boolean
  | 4 => .int
  | 5 => .int
  | 6 => .object "RuleShuttle$Tree"
  | 7 => .array .int
  | 8 => .array .int
  | 9 => .array .int
  | 10 => .int
  | 11 => .array .int
  | 12 => .array .int
  | 13 => .int
  | 14 => .int
  | _ => .array .int
abbrev wsX40 : List Cond := u_ws RX4 TX4 16
theorem nmX4 : ∀ a, a < 16 → ∀ b, b < 16 → a ≠ b → (TX4 a).2.1 ≠ (TX4 b).2.1 := by decide +kernel
theorem tyX4_ok : ∀ k, k < 16 → parseFieldDescriptor (TX4 k).2.2.1 = some (tyX4 k) := by decide +kernel
abbrev cX4_init : ByteArray := prog_6_method_1_code
def yX4_init : MethodName := ⟨RX4, "<init>", "()V"⟩
abbrev cX4_size : ByteArray := prog_6_method_2_code
def yX4_size : MethodName := ⟨RX4, "size", "(I)I"⟩
abbrev cX4_first : ByteArray := prog_6_method_3_code
def yX4_first : MethodName := ⟨RX4, "first", "(I)I"⟩
abbrev cX4_member : ByteArray := prog_6_method_4_code
def yX4_member : MethodName := ⟨RX4, "member", "(II)I"⟩
abbrev cX4_find : ByteArray := prog_6_method_5_code
def yX4_find : MethodName := ⟨RX4, "find", "(LRuleShuttle$Tree;)V"⟩
abbrev cX4_explore : ByteArray := prog_6_method_6_code
def yX4_explore : MethodName := ⟨RX4, "explore", "(I)V"⟩
abbrev cX4_enter : ByteArray := prog_6_method_7_code
def yX4_enter : MethodName := ⟨RX4, "enter", "(I)V"⟩
abbrev cX4_look : ByteArray := prog_6_method_8_code
def yX4_look : MethodName := ⟨RX4, "look", "(II)V"⟩
abbrev cX4_leave : ByteArray := prog_6_method_9_code
def yX4_leave : MethodName := ⟨RX4, "leave", "(I)V"⟩
abbrev cX4_bind : ByteArray := prog_6_method_10_code
def yX4_bind : MethodName := ⟨RX4, "bind", "(I)V"⟩
abbrev cX4_insert : ByteArray := prog_6_method_11_code
def yX4_insert : MethodName := ⟨RX4, "insert", "(III)V"⟩
abbrev cX4_hangsOnItself : ByteArray := prog_6_method_12_code
def yX4_hangsOnItself : MethodName := ⟨RX4, "hangsOnItself", "(I)Z"⟩
abbrev cX4_longestRow : ByteArray := prog_6_method_13_code
def yX4_longestRow : MethodName := ⟨RX4, "longestRow", "()I"⟩
abbrev cX4_longestAhead : ByteArray := prog_6_method_14_code
def yX4_longestAhead : MethodName := ⟨RX4, "longestAhead", "(I)I"⟩
def RX5 : String := "RuleShuttle$Plans"
def TX5 : u_T := fun k => match k with
  | 0 => ("RuleShuttle$Plans", "count", "[I", true)
  | 1 => ("RuleShuttle$Plans", "when", "[I", true)
  | 2 => ("RuleShuttle$Plans", "wide", "[I", true)
  | 3 => ("RuleShuttle$Plans", "block", "I", false)
  | 4 => ("RuleShuttle$Plans", "steps", "[I", true)
  | 5 => ("RuleShuttle$Plans", "done", "[I", true)
  | 6 => ("RuleShuttle$Plans", "known", "I", false)
  | 7 => ("RuleShuttle$Plans", "length", "[I", true)
  | 8 => ("RuleShuttle$Plans", "visitSteps", "[I", true)
  | _ => ("RuleShuttle$Plans", "ruleSteps", "[I", true)
def tyX5 : Nat → FieldType := fun k => match k with
  | 0 => .array .int
  | 1 => .array .int
  | 2 => .array .int
  | 3 => .int
  | 4 => .array .int
  | 5 => .array .int
  | 6 => .int
  | 7 => .array .int
  | 8 => .array .int
  | _ => .array .int
abbrev wsX50 : List Cond := u_ws RX5 TX5 10
theorem nmX5 : ∀ a, a < 10 → ∀ b, b < 10 → a ≠ b → (TX5 a).2.1 ≠ (TX5 b).2.1 := by decide +kernel
theorem tyX5_ok : ∀ k, k < 10 → parseFieldDescriptor (TX5 k).2.2.1 = some (tyX5 k) := by decide +kernel
abbrev cX5_init : ByteArray := prog_7_method_1_code
def yX5_init : MethodName := ⟨RX5, "<init>", "()V"⟩
abbrev cX5_find : ByteArray := prog_7_method_2_code
def yX5_find : MethodName := ⟨RX5, "find", "(LRuleShuttle$Grammar;LRuleShuttle$Hanging;)V"⟩
abbrev cX5_fit : ByteArray := prog_7_method_3_code
def yX5_fit : MethodName := ⟨RX5, "fit", "(LRuleShuttle$Grammar;I)Z"⟩
abbrev cX5_during : ByteArray := prog_7_method_4_code
def yX5_during : MethodName := ⟨RX5, "during", "(LRuleShuttle$Grammar;II)I"⟩
abbrev cX5_orderOf : ByteArray := prog_7_method_5_code
def yX5_orderOf : MethodName := ⟨RX5, "orderOf", "(LRuleShuttle$Grammar;LRuleShuttle$Hanging;I)I"⟩
abbrev cX5_fill : ByteArray := prog_7_method_6_code
def yX5_fill : MethodName := ⟨RX5, "fill", "(LRuleShuttle$Hanging;IIII)I"⟩
abbrev cX5_isAwaited : ByteArray := prog_7_method_7_code
def yX5_isAwaited : MethodName := ⟨RX5, "isAwaited", "(LRuleShuttle$Hanging;III)Z"⟩
abbrev cX5_widen : ByteArray := prog_7_method_8_code
def yX5_widen : MethodName := ⟨RX5, "widen", "(LRuleShuttle$Grammar;LRuleShuttle$Hanging;I)V"⟩
abbrev cX5_aheadOf : ByteArray := prog_7_method_9_code
def yX5_aheadOf : MethodName := ⟨RX5, "aheadOf", "(LRuleShuttle$Grammar;II)I"⟩
abbrev cX5_step : ByteArray := prog_7_method_10_code
def yX5_step : MethodName := ⟨RX5, "step", "(II)I"⟩
abbrev cX5_lay : ByteArray := prog_7_method_11_code
def yX5_lay : MethodName := ⟨RX5, "lay", "(LRuleShuttle$Grammar;I)V"⟩
abbrev cX5_add : ByteArray := prog_7_method_12_code
def yX5_add : MethodName := ⟨RX5, "add", "(II)V"⟩
abbrev cX5_addRule : ByteArray := prog_7_method_13_code
def yX5_addRule : MethodName := ⟨RX5, "addRule", "(LRuleShuttle$Grammar;I)Z"⟩
abbrev cX5_addVisit : ByteArray := prog_7_method_14_code
def yX5_addVisit : MethodName := ⟨RX5, "addVisit", "(LRuleShuttle$Grammar;I)Z"⟩
def RX6 : String := "RuleShuttle$Shades"
def TX6 : u_T := fun k => match k with
  | 0 => ("RuleShuttle$Shades", "found", "[I", true)
  | 1 => ("RuleShuttle$Shades", "have", "[I", true)
  | 2 => ("RuleShuttle$Shades", "old", "[I", true)
  | 3 => ("RuleShuttle$Shades", "row", "[I", true)
  | 4 => ("RuleShuttle$Shades", "count", "[I", true)
  | 5 => ("RuleShuttle$Shades", "known", "Z", false)
  | 6 => ("RuleShuttle$Shades", "circles", "Z", false)
  | 7 => ("RuleShuttle$Shades", "rounds", "I", false)
  | 8 => ("RuleShuttle$Shades", "circleRound", "I", false)
  | 9 => ("RuleShuttle$Shades", "circleTotal", "I", false)
  | _ => ("RuleShuttle$Shades", "overflow", "Z", false)
def tyX6 : Nat → FieldType := fun k => match k with
  | 0 => .array .int
  | 1 => .array .int
  | 2 => .array .int
  | 3 => .array .int
  | 4 => .array .int
  | 5 => .boolean
  | 6 => .boolean
  | 7 => .int
  | 8 => .int
  | 9 => .int
  | _ => .boolean
abbrev wsX60 : List Cond := u_ws RX6 TX6 11
theorem nmX6 : ∀ a, a < 11 → ∀ b, b < 11 → a ≠ b → (TX6 a).2.1 ≠ (TX6 b).2.1 := by decide +kernel
theorem tyX6_ok : ∀ k, k < 11 → parseFieldDescriptor (TX6 k).2.2.1 = some (tyX6 k) := by decide +kernel
abbrev cX6_init : ByteArray := prog_8_method_1_code
def yX6_init : MethodName := ⟨RX6, "<init>", "()V"⟩
abbrev cX6_forget : ByteArray := prog_8_method_2_code
def yX6_forget : MethodName := ⟨RX6, "forget", "()V"⟩
abbrev cX6_unsure : ByteArray := prog_8_method_3_code
def yX6_unsure : MethodName := ⟨RX6, "unsure", "()Z"⟩
abbrev cX6_total : ByteArray := prog_8_method_4_code
def yX6_total : MethodName := ⟨RX6, "total", "()I"⟩
abbrev cX6_seek : ByteArray := prog_8_method_5_code
def yX6_seek : MethodName := ⟨RX6, "seek", "(LRuleShuttle$Grammar;)V"⟩
abbrev cX6_begin : ByteArray := prog_8_method_6_code
def yX6_begin : MethodName := ⟨RX6, "begin", "()V"⟩
abbrev cX6_goRound : ByteArray := prog_8_method_7_code
def yX6_goRound : MethodName := ⟨RX6, "goRound", "(LRuleShuttle$Grammar;I)V"⟩
abbrev cX6_castEach : ByteArray := prog_8_method_8_code
def yX6_castEach : MethodName := ⟨RX6, "castEach", "(LRuleShuttle$Grammar;I)V"⟩
abbrev cX6_choices : ByteArray := prog_8_method_9_code
def yX6_choices : MethodName := ⟨RX6, "choices", "(LRuleShuttle$Grammar;II)I"⟩
abbrev cX6_isNew : ByteArray := prog_8_method_10_code
def yX6_isNew : MethodName := ⟨RX6, "isNew", "(LRuleShuttle$Grammar;III)Z"⟩
abbrev cX6_cast : ByteArray := prog_8_method_11_code
def yX6_cast : MethodName := ⟨RX6, "cast", "(LRuleShuttle$Grammar;IIII)V"⟩
abbrev cX6_layShade : ByteArray := prog_8_method_12_code
def yX6_layShade : MethodName := ⟨RX6, "layShade", "(LRuleShuttle$Grammar;III)V"⟩
abbrev cX6_keep : ByteArray := prog_8_method_13_code
def yX6_keep : MethodName := ⟨RX6, "keep", "(II)V"⟩
def RX7 : String := "RuleShuttle$Tape"
def TX7 : u_T := fun k => match k with
  | 0 => ("RuleShuttle$Tape", "bytes", "[B", true)
  | 1 => ("RuleShuttle$Tape", "kinds", "[I", true)
  | 2 => ("RuleShuttle$Tape", "starts", "[I", true)
  | 3 => ("RuleShuttle$Tape", "contents", "[J", true)
  | 4 => ("RuleShuttle$Tape", "tokens", "I", false)
  | 5 => ("RuleShuttle$Tape", "here", "I", false)
  | 6 => ("RuleShuttle$Tape", "length", "I", false)
  | 7 => ("RuleShuttle$Tape", "kind", "I", false)
  | 8 => ("RuleShuttle$Tape", "content", "J", false)
  | 9 => ("RuleShuttle$Tape", "fault", "I", false)
  | _ => ("RuleShuttle$Tape", "place", "I", false)
def tyX7 : Nat → FieldType := fun k => match k with
  | 0 => .array .byte
  | 1 => .array .int
  | 2 => .array .int
  | 3 => .array .long
  | 4 => .int
  | 5 => .int
  | 6 => .int
  | 7 => .int
  | 8 => .long
  | 9 => .int
  | _ => .int
abbrev wsX70 : List Cond := u_ws RX7 TX7 11
theorem nmX7 : ∀ a, a < 11 → ∀ b, b < 11 → a ≠ b → (TX7 a).2.1 ≠ (TX7 b).2.1 := by decide +kernel
theorem tyX7_ok : ∀ k, k < 11 → parseFieldDescriptor (TX7 k).2.2.1 = some (tyX7 k) := by decide +kernel
abbrev cX7_init : ByteArray := prog_9_method_1_code
def yX7_init : MethodName := ⟨RX7, "<init>", "()V"⟩
abbrev cX7_append : ByteArray := prog_9_method_2_code
def yX7_append : MethodName := ⟨RX7, "append", "(I)V"⟩
abbrev cX7_holds : ByteArray := prog_9_method_3_code
def yX7_holds : MethodName := ⟨RX7, "holds", "(I)Z"⟩
abbrev cX7_begin : ByteArray := prog_9_method_4_code
def yX7_begin : MethodName := ⟨RX7, "begin", "(I)V"⟩
abbrev cX7_advance : ByteArray := prog_9_method_5_code
def yX7_advance : MethodName := ⟨RX7, "advance", "()V"⟩
abbrev cX7_isSignOf : ByteArray := prog_9_method_6_code
def yX7_isSignOf : MethodName := ⟨RX7, "isSignOf", "(I)Z"⟩
abbrev cX7_isWordOf : ByteArray := prog_9_method_7_code
def yX7_isWordOf : MethodName := ⟨RX7, "isWordOf", "(J)Z"⟩
abbrev cX7_isName : ByteArray := prog_9_method_8_code
def yX7_isName : MethodName := ⟨RX7, "isName", "()Z"⟩
abbrev cX7_pointFollows : ByteArray := prog_9_method_9_code
def yX7_pointFollows : MethodName := ⟨RX7, "pointFollows", "()Z"⟩
abbrev cX7_takeSign : ByteArray := prog_9_method_10_code
def yX7_takeSign : MethodName := ⟨RX7, "takeSign", "(I)Z"⟩
abbrev cX7_fail : ByteArray := prog_9_method_11_code
def yX7_fail : MethodName := ⟨RX7, "fail", "(I)Z"⟩
abbrev cX7_byteAt : ByteArray := prog_9_method_12_code
def yX7_byteAt : MethodName := ⟨RX7, "byteAt", "(I)I"⟩
abbrev cX7_add : ByteArray := prog_9_method_13_code
def yX7_add : MethodName := ⟨RX7, "add", "(IIJ)V"⟩
abbrev cX7_cut : ByteArray := prog_9_method_14_code
def yX7_cut : MethodName := ⟨RX7, "cut", "(II)I"⟩
abbrev cX7_cutWord : ByteArray := prog_9_method_15_code
def yX7_cutWord : MethodName := ⟨RX7, "cutWord", "(II)I"⟩
abbrev cX7_cutNumber : ByteArray := prog_9_method_16_code
def yX7_cutNumber : MethodName := ⟨RX7, "cutNumber", "(II)I"⟩
abbrev cX7_isBlank : ByteArray := prog_9_method_17_code
def yX7_isBlank : MethodName := ⟨RX7, "isBlank", "(I)Z"⟩
abbrev cX7_isLetter : ByteArray := prog_9_method_18_code
def yX7_isLetter : MethodName := ⟨RX7, "isLetter", "(I)Z"⟩
abbrev cX7_isDigit : ByteArray := prog_9_method_19_code
def yX7_isDigit : MethodName := ⟨RX7, "isDigit", "(I)Z"⟩
abbrev cX7_isSign : ByteArray := prog_9_method_20_code
def yX7_isSign : MethodName := ⟨RX7, "isSign", "(I)Z"⟩
def RX8 : String := "RuleShuttle$Tree"
def TX8 : u_T := fun k => match k with
  | 0 => ("RuleShuttle$Tree", "count", "I", false)
  | 1 => ("RuleShuttle$Tree", "prod", "[I", true)
  | 2 => ("RuleShuttle$Tree", "own", "[I", true)
  | 3 => ("RuleShuttle$Tree", "parent", "[I", true)
  | 4 => ("RuleShuttle$Tree", "place", "[I", true)
  | 5 => ("RuleShuttle$Tree", "deep", "[I", true)
  | 6 => ("RuleShuttle$Tree", "size", "[I", true)
  | 7 => ("RuleShuttle$Tree", "symbolAt", "[I", true)
  | 8 => ("RuleShuttle$Tree", "ins", "[I", true)
  | 9 => ("RuleShuttle$Tree", "attributes", "[I", true)
  | 10 => ("RuleShuttle$Tree", "children", "[I", true)
  | 11 => ("RuleShuttle$Tree", "positions", "[I", true)
  | 12 => ("RuleShuttle$Tree", "given", "[I", true)
  | 13 => ("RuleShuttle$Tree", "teller", "[I", true)
  | 14 => ("RuleShuttle$Tree", "occ", "[I", true)
  | 15 => ("RuleShuttle$Tree", "asks", "[I", true)
  | 16 => ("RuleShuttle$Tree", "seen", "[Z", true)
  | 17 => ("RuleShuttle$Tree", "list", "[I", true)
  | _ => ("RuleShuttle$Tree", "listed", "I", false)
def tyX8 : Nat → FieldType := fun k => match k with
  | 0 => .int
  | 1 => .array .int
  | 2 => .array .int
  | 3 => .array .int
  | 4 => .array .int
  | 5 => .array .int
  | 6 => .array .int
  | 7 => .array .int
  | 8 => .array .int
  | 9 => .array .int
  | 10 => .array .int
  | 11 => .array .int
  | 12 => .array .int
  | 13 => .array .int
  | 14 => .array .int
  | 15 => .array .int
  | 16 => .array .boolean
  | 17 => .array .int
  | _ => .int
abbrev wsX80 : List Cond := u_ws RX8 TX8 19
theorem nmX8 : ∀ a, a < 19 → ∀ b, b < 19 → a ≠ b → (TX8 a).2.1 ≠ (TX8 b).2.1 := by decide +kernel
theorem tyX8_ok : ∀ k, k < 19 → parseFieldDescriptor (TX8 k).2.2.1 = some (tyX8 k) := by decide +kernel
abbrev cX8_init : ByteArray := prog_10_method_1_code
def yX8_init : MethodName := ⟨RX8, "<init>", "()V"⟩
abbrev cX8_clear : ByteArray := prog_10_method_2_code
def yX8_clear : MethodName := ⟨RX8, "clear", "()V"⟩
abbrev cX8_add : ByteArray := prog_10_method_3_code
def yX8_add : MethodName := ⟨RX8, "add", "(LRuleShuttle$Grammar;IIII)V"⟩
abbrev cX8_copyAhead : ByteArray := prog_10_method_4_code
def yX8_copyAhead : MethodName := ⟨RX8, "copyAhead", "(LRuleShuttle$Grammar;LRuleShuttle$Tree;I)V"⟩
abbrev cX8_copyBehind : ByteArray := prog_10_method_5_code
def yX8_copyBehind : MethodName := ⟨RX8, "copyBehind", "(LRuleShuttle$Grammar;LRuleShuttle$Tree;II)V"⟩
abbrev cX8_link : ByteArray := prog_10_method_6_code
def yX8_link : MethodName := ⟨RX8, "link", "(LRuleShuttle$Grammar;)V"⟩
abbrev cX8_linkInstances : ByteArray := prog_10_method_7_code
def yX8_linkInstances : MethodName := ⟨RX8, "linkInstances", "(LRuleShuttle$Grammar;I)V"⟩
abbrev cX8_hasNode : ByteArray := prog_10_method_8_code
def yX8_hasNode : MethodName := ⟨RX8, "hasNode", "(I)Z"⟩
abbrev cX8_hasInstance : ByteArray := prog_10_method_9_code
def yX8_hasInstance : MethodName := ⟨RX8, "hasInstance", "(II)Z"⟩
abbrev cX8_child : ByteArray := prog_10_method_10_code
def yX8_child : MethodName := ⟨RX8, "child", "(II)I"⟩
abbrev cX8_instance : ByteArray := prog_10_method_11_code
def yX8_instance : MethodName := ⟨RX8, "instance", "(II)I"⟩
abbrev cX8_need : ByteArray := prog_10_method_12_code
def yX8_need : MethodName := ⟨RX8, "need", "(I)I"⟩
abbrev cX8_reach : ByteArray := prog_10_method_13_code
def yX8_reach : MethodName := ⟨RX8, "reach", "(LRuleShuttle$Grammar;I)I"⟩
abbrev cX8_begin : ByteArray := prog_10_method_14_code
def yX8_begin : MethodName := ⟨RX8, "begin", "(I)V"⟩
abbrev cX8_addAll : ByteArray := prog_10_method_15_code
def yX8_addAll : MethodName := ⟨RX8, "addAll", "(II)V"⟩
def RX9 : String := "RuleShuttle$TreeReader"
def TX9 : u_T := fun k => match k with
  | 0 => ("RuleShuttle$TreeReader", "tape", "LRuleShuttle$Tape;", false)
  | 1 => ("RuleShuttle$TreeReader", "g", "LRuleShuttle$Grammar;", false)
  | 2 => ("RuleShuttle$TreeReader", "t", "LRuleShuttle$Tree;", false)
  | _ => ("RuleShuttle$TreeReader", "behind", "I", false)
def tyX9 : Nat → FieldType := fun k => match k with
  | 0 => .object "RuleShuttle$Tape"
  | 1 => .object "RuleShuttle$Grammar"
  | 2 => .object "RuleShuttle$Tree"
  | _ => .int
abbrev wsX90 : List Cond := u_ws RX9 TX9 4
theorem nmX9 : ∀ a, a < 4 → ∀ b, b < 4 → a ≠ b → (TX9 a).2.1 ≠ (TX9 b).2.1 := by decide +kernel
theorem tyX9_ok : ∀ k, k < 4 → parseFieldDescriptor (TX9 k).2.2.1 = some (tyX9 k) := by decide +kernel
abbrev cX9_init : ByteArray := prog_11_method_1_code
def yX9_init : MethodName := ⟨RX9, "<init>", "()V"⟩
abbrev cX9_read : ByteArray := prog_11_method_2_code
def yX9_read : MethodName := ⟨RX9, "read", "(LRuleShuttle$Tape;LRuleShuttle$Grammar;LRuleShuttle$Tree;IIII)Z"⟩
abbrev cX9_readNext : ByteArray := prog_11_method_3_code
def yX9_readNext : MethodName := ⟨RX9, "readNext", "(I)Z"⟩
abbrev cX9_readChild : ByteArray := prog_11_method_4_code
def yX9_readChild : MethodName := ⟨RX9, "readChild", "(II)Z"⟩
abbrev cX9_readNode : ByteArray := prog_11_method_5_code
def yX9_readNode : MethodName := ⟨RX9, "readNode", "(III)Z"⟩
abbrev cX9_climb : ByteArray := prog_11_method_6_code
def yX9_climb : MethodName := ⟨RX9, "climb", "(II)I"⟩
abbrev cX9_isLast : ByteArray := prog_11_method_7_code
def yX9_isLast : MethodName := ⟨RX9, "isLast", "(I)Z"⟩
def RX10 : String := "RuleShuttle$Work"
def TX10 : u_T := fun k => match k with
  | 0 => ("RuleShuttle$Work", "knots", "LRuleShuttle$Knots;", true)
  | 1 => ("RuleShuttle$Work", "values", "[I", true)
  | 2 => ("RuleShuttle$Work", "turns", "[I", true)
  | 3 => ("RuleShuttle$Work", "unsettled", "[Z", true)
  | 4 => ("RuleShuttle$Work", "pile", "[I", true)
  | 5 => ("RuleShuttle$Work", "t", "LRuleShuttle$Tree;", false)
  | _ => ("RuleShuttle$Work", "g", "LRuleShuttle$Grammar;", false)
def tyX10 : Nat → FieldType := fun k => match k with
  | 0 => .object "RuleShuttle$Knots"
  | 1 => .array .int
  | 2 => .array .int
  | 3 => .array .boolean
  | 4 => .array .int
  | 5 => .object "RuleShuttle$Tree"
  | _ => .object "RuleShuttle$Grammar"
abbrev wsX100 : List Cond := u_ws RX10 TX10 7
theorem nmX10 : ∀ a, a < 7 → ∀ b, b < 7 → a ≠ b → (TX10 a).2.1 ≠ (TX10 b).2.1 := by decide +kernel
theorem tyX10_ok : ∀ k, k < 7 → parseFieldDescriptor (TX10 k).2.2.1 = some (tyX10 k) := by decide +kernel
abbrev cX10_init : ByteArray := prog_12_method_1_code
def yX10_init : MethodName := ⟨RX10, "<init>", "()V"⟩
abbrev cX10_begin : ByteArray := prog_12_method_2_code
def yX10_begin : MethodName := ⟨RX10, "begin", "(LRuleShuttle$Grammar;LRuleShuttle$Tree;)V"⟩
abbrev cX10_reckonAll : ByteArray := prog_12_method_3_code
def yX10_reckonAll : MethodName := ⟨RX10, "reckonAll", "()V"⟩
abbrev cX10_reckonGroup : ByteArray := prog_12_method_4_code
def yX10_reckonGroup : MethodName := ⟨RX10, "reckonGroup", "(I)V"⟩
abbrev cX10_reckon : ByteArray := prog_12_method_5_code
def yX10_reckon : MethodName := ⟨RX10, "reckon", "(I)I"⟩
abbrev cX10_load : ByteArray := prog_12_method_6_code
def yX10_load : MethodName := ⟨RX10, "load", "(II)I"⟩
abbrev cX10_join : ByteArray := prog_12_method_7_code
def yX10_join : MethodName := ⟨RX10, "join", "(III)I"⟩
def RX11 : String := "RuleShuttle"
def TX11 : u_T := fun k => match k with
  | 0 => ("RuleShuttle", "state", "I", false)
  | 1 => ("RuleShuttle", "faultKind", "I", false)
  | 2 => ("RuleShuttle", "faultPlace", "I", false)
  | 3 => ("RuleShuttle", "touched", "Z", false)
  | 4 => ("RuleShuttle", "tape", "LRuleShuttle$Tape;", true)
  | 5 => ("RuleShuttle", "grammarReader", "LRuleShuttle$GrammarReader;", true)
  | 6 => ("RuleShuttle", "treeReader", "LRuleShuttle$TreeReader;", true)
  | 7 => ("RuleShuttle", "hanging", "LRuleShuttle$Hanging;", true)
  | 8 => ("RuleShuttle", "plans", "LRuleShuttle$Plans;", true)
  | 9 => ("RuleShuttle", "shadows", "LRuleShuttle$Shades;", true)
  | 10 => ("RuleShuttle", "change", "LRuleShuttle$Change;", true)
  | 11 => ("RuleShuttle", "rules", "LRuleShuttle$Grammar;", false)
  | 12 => ("RuleShuttle", "spareRules", "LRuleShuttle$Grammar;", false)
  | 13 => ("RuleShuttle", "wood", "LRuleShuttle$Tree;", false)
  | 14 => ("RuleShuttle", "spareWood", "LRuleShuttle$Tree;", false)
  | 15 => ("RuleShuttle", "work", "LRuleShuttle$Work;", false)
  | _ => ("RuleShuttle", "spareWork", "LRuleShuttle$Work;", false)
def tyX11 : Nat → FieldType := fun k => match k with
  | 0 => .int
  | 1 => .int
  | 2 => .int
  | 3 => .boolean
  | 4 => .object "RuleShuttle$Tape"
  | 5 => .object "RuleShuttle$GrammarReader"
  | 6 => .object "RuleShuttle$TreeReader"
  | 7 => .object "RuleShuttle$Hanging"
  | 8 => .object "RuleShuttle$Plans"
  | 9 => .object "RuleShuttle$Shades"
  | 10 => .object "RuleShuttle$Change"
  | 11 => .object "RuleShuttle$Grammar"
  | 12 => .object "RuleShuttle$Grammar"
  | 13 => .object "RuleShuttle$Tree"
  | 14 => .object "RuleShuttle$Tree"
  | 15 => .object "RuleShuttle$Work"
  | _ => .object "RuleShuttle$Work"
abbrev wsX110 : List Cond := u_ws RX11 TX11 17
theorem nmX11 : ∀ a, a < 17 → ∀ b, b < 17 → a ≠ b → (TX11 a).2.1 ≠ (TX11 b).2.1 := by decide +kernel
theorem tyX11_ok : ∀ k, k < 17 → parseFieldDescriptor (TX11 k).2.2.1 = some (tyX11 k) := by decide +kernel
abbrev cX11_init : ByteArray := prog_1_method_1_code
def yX11_init : MethodName := ⟨RX11, "<init>", "()V"⟩
abbrev cX11_status : ByteArray := prog_1_method_2_code
def yX11_status : MethodName := ⟨RX11, "status", "()I"⟩
abbrev cX11_feed : ByteArray := prog_1_method_3_code
def yX11_feed : MethodName := ⟨RX11, "feed", "(IIIII)I"⟩
abbrev cX11_grammar : ByteArray := prog_1_method_4_code
def yX11_grammar : MethodName := ⟨RX11, "grammar", "(I)I"⟩
abbrev cX11_fault : ByteArray := prog_1_method_5_code
def yX11_fault : MethodName := ⟨RX11, "fault", "(I)I"⟩
abbrev cX11_many : ByteArray := prog_1_method_6_code
def yX11_many : MethodName := ⟨RX11, "many", "(I)I"⟩
abbrev cX11_symbol : ByteArray := prog_1_method_7_code
def yX11_symbol : MethodName := ⟨RX11, "symbol", "(II)I"⟩
abbrev cX11_production : ByteArray := prog_1_method_8_code
def yX11_production : MethodName := ⟨RX11, "production", "(II)I"⟩
abbrev cX11_hangs : ByteArray := prog_1_method_9_code
def yX11_hangs : MethodName := ⟨RX11, "hangs", "(IIII)I"⟩
abbrev cX11_induced : ByteArray := prog_1_method_10_code
def yX11_induced : MethodName := ⟨RX11, "induced", "(III)I"⟩
abbrev cX11_circle : ByteArray := prog_1_method_11_code
def yX11_circle : MethodName := ⟨RX11, "circle", "(I)I"⟩
abbrev cX11_visit : ByteArray := prog_1_method_12_code
def yX11_visit : MethodName := ⟨RX11, "visit", "(II)I"⟩
abbrev cX11_ordered : ByteArray := prog_1_method_13_code
def yX11_ordered : MethodName := ⟨RX11, "ordered", "(I)I"⟩
abbrev cX11_plan : ByteArray := prog_1_method_14_code
def yX11_plan : MethodName := ⟨RX11, "plan", "(II)I"⟩
abbrev cX11_real : ByteArray := prog_1_method_15_code
def yX11_real : MethodName := ⟨RX11, "real", "(I)I"⟩
abbrev cX11_shades : ByteArray := prog_1_method_16_code
def yX11_shades : MethodName := ⟨RX11, "shades", "(I)I"⟩
abbrev cX11_tree : ByteArray := prog_1_method_17_code
def yX11_tree : MethodName := ⟨RX11, "tree", "(I)I"⟩
abbrev cX11_node : ByteArray := prog_1_method_18_code
def yX11_node : MethodName := ⟨RX11, "node", "(II)I"⟩
abbrev cX11_value : ByteArray := prog_1_method_19_code
def yX11_value : MethodName := ⟨RX11, "value", "(II)I"⟩
abbrev cX11_knot : ByteArray := prog_1_method_20_code
def yX11_knot : MethodName := ⟨RX11, "knot", "(III)I"⟩
abbrev cX11_span : ByteArray := prog_1_method_21_code
def yX11_span : MethodName := ⟨RX11, "span", "(III)I"⟩
abbrev cX11_run : ByteArray := prog_1_method_22_code
def yX11_run : MethodName := ⟨RX11, "run", "(I)I"⟩
abbrev cX11_longest : ByteArray := prog_1_method_23_code
def yX11_longest : MethodName := ⟨RX11, "longest", "()I"⟩
abbrev cX11_put : ByteArray := prog_1_method_24_code
def yX11_put : MethodName := ⟨RX11, "put", "(II)I"⟩
abbrev cX11_give : ByteArray := prog_1_method_25_code
def yX11_give : MethodName := ⟨RX11, "give", "(II)I"⟩
abbrev cX11_graft : ByteArray := prog_1_method_26_code
def yX11_graft : MethodName := ⟨RX11, "graft", "(II)I"⟩
abbrev cX11_anew : ByteArray := prog_1_method_27_code
def yX11_anew : MethodName := ⟨RX11, "anew", "(I)I"⟩
abbrev cX11_digest : ByteArray := prog_1_method_28_code
def yX11_digest : MethodName := ⟨RX11, "digest", "()I"⟩
abbrev cX11_refuse : ByteArray := prog_1_method_29_code
def yX11_refuse : MethodName := ⟨RX11, "refuse", "(I)I"⟩
abbrev cX11_answer : ByteArray := prog_1_method_30_code
def yX11_answer : MethodName := ⟨RX11, "answer", "(I)I"⟩
abbrev cX11_keepFault : ByteArray := prog_1_method_31_code
def yX11_keepFault : MethodName := ⟨RX11, "keepFault", "(Z)V"⟩
abbrev cX11_noInstance : ByteArray := prog_1_method_32_code
def yX11_noInstance : MethodName := ⟨RX11, "noInstance", "(II)I"⟩
abbrev cX11_swapRules : ByteArray := prog_1_method_33_code
def yX11_swapRules : MethodName := ⟨RX11, "swapRules", "()V"⟩
abbrev cX11_swapWood : ByteArray := prog_1_method_34_code
def yX11_swapWood : MethodName := ⟨RX11, "swapWood", "()V"⟩
abbrev cX11_clearFlags : ByteArray := prog_1_method_35_code
def yX11_clearFlags : MethodName := ⟨RX11, "clearFlags", "([Z)V"⟩
abbrev cX11_reckonAnew : ByteArray := prog_1_method_36_code
def yX11_reckonAnew : MethodName := ⟨RX11, "reckonAnew", "()V"⟩
def RX12 : String := "RuleShuttleModel"
def TX12 : u_T := fun k => match k with
  | 0 => ("RuleShuttleModel", "tape", "[I", true)
  | 1 => ("RuleShuttleModel", "told", "[I", true)
  | 2 => ("RuleShuttleModel", "read", "[I", true)
  | 3 => ("RuleShuttleModel", "names", "[J", true)
  | 4 => ("RuleShuttleModel", "readNames", "[J", true)
  | 5 => ("RuleShuttleModel", "taped", "I", false)
  | 6 => ("RuleShuttleModel", "status", "I", false)
  | 7 => ("RuleShuttleModel", "faultKind", "I", false)
  | 8 => ("RuleShuttleModel", "faultPlace", "I", false)
  | 9 => ("RuleShuttleModel", "hasGrammar", "Z", false)
  | 10 => ("RuleShuttleModel", "size", "I", false)
  | 11 => ("RuleShuttleModel", "from", "I", false)
  | 12 => ("RuleShuttleModel", "to", "I", false)
  | 13 => ("RuleShuttleModel", "kind", "I", false)
  | 14 => ("RuleShuttleModel", "number", "I", false)
  | 15 => ("RuleShuttleModel", "sign", "I", false)
  | 16 => ("RuleShuttleModel", "fault", "I", false)
  | 17 => ("RuleShuttleModel", "place", "I", false)
  | 18 => ("RuleShuttleModel", "word", "J", false)
  | 19 => ("RuleShuttleModel", "occ", "I", false)
  | 20 => ("RuleShuttleModel", "parts", "I", false)
  | 21 => ("RuleShuttleModel", "asked", "I", false)
  | 22 => ("RuleShuttleModel", "induced", "[I", true)
  | 23 => ("RuleShuttleModel", "rel", "[I", true)
  | 24 => ("RuleShuttleModel", "direct", "[I", true)
  | 25 => ("RuleShuttleModel", "far", "[I", true)
  | 26 => ("RuleShuttleModel", "ring", "[I", true)
  | 27 => ("RuleShuttleModel", "ringMany", "I", false)
  | 28 => ("RuleShuttleModel", "setOf", "[I", true)
  | 29 => ("RuleShuttleModel", "visitOf", "[I", true)
  | 30 => ("RuleShuttleModel", "visits", "[I", true)
  | 31 => ("RuleShuttleModel", "sets", "I", false)
  | 32 => ("RuleShuttleModel", "steps", "[I", true)
  | 33 => ("RuleShuttleModel", "stepMany", "I", false)
  | 34 => ("RuleShuttleModel", "visited", "[I", true)
  | 35 => ("RuleShuttleModel", "shade", "[I", true)
  | 36 => ("RuleShuttleModel", "shadeMany", "[I", true)
  | 37 => ("RuleShuttleModel", "shadeKnown", "[I", true)
  | 38 => ("RuleShuttleModel", "chosen", "[I", true)
  | 39 => ("RuleShuttleModel", "rounds", "I", false)
  | 40 => ("RuleShuttleModel", "circleRound", "I", false)
  | 41 => ("RuleShuttleModel", "isMuch", "Z", false)
  | 42 => ("RuleShuttleModel", "isNewShade", "Z", false)
  | 43 => ("RuleShuttleModel", "prod", "[I", true)
  | 44 => ("RuleShuttleModel", "own", "[I", true)
  | 45 => ("RuleShuttleModel", "parent", "[I", true)
  | 46 => ("RuleShuttleModel", "newProd", "[I", true)
  | 47 => ("RuleShuttleModel", "newOwn", "[I", true)
  | 48 => ("RuleShuttleModel", "newParent", "[I", true)
  | 49 => ("RuleShuttleModel", "given", "[I", true)
  | 50 => ("RuleShuttleModel", "nodes", "I", false)
  | 51 => ("RuleShuttleModel", "newNodes", "I", false)
  | 52 => ("RuleShuttleModel", "stays", "I", false)
  | 53 => ("RuleShuttleModel", "isCounted", "Z", false)
  | 54 => ("RuleShuttleModel", "anewMany", "I", false)
  | 55 => ("RuleShuttleModel", "changedMany", "I", false)
  | 56 => ("RuleShuttleModel", "base", "[I", true)
  | 57 => ("RuleShuttleModel", "occOf", "[I", true)
  | 58 => ("RuleShuttleModel", "value", "[I", true)
  | 59 => ("RuleShuttleModel", "knot", "[I", true)
  | 60 => ("RuleShuttleModel", "turns", "[I", true)
  | 61 => ("RuleShuttleModel", "order", "[I", true)
  | 62 => ("RuleShuttleModel", "old", "[I", true)
  | 63 => ("RuleShuttleModel", "oldKnot", "[I", true)
  | 64 => ("RuleShuttleModel", "near", "[I", true)
  | 65 => ("RuleShuttleModel", "reach", "[I", true)
  | 66 => ("RuleShuttleModel", "isThere", "[Z", true)
  | 67 => ("RuleShuttleModel", "isUnsettled", "[Z", true)
  | 68 => ("RuleShuttleModel", "isDone", "[Z", true)
  | 69 => ("RuleShuttleModel", "mustAnew", "[Z", true)
  | 70 => ("RuleShuttleModel", "isNew", "[Z", true)
  | 71 => ("RuleShuttleModel", "isChanged", "[Z", true)
  | 72 => ("RuleShuttleModel", "orderMany", "I", false)
  | 73 => ("RuleShuttleModel", "pile", "[I", true)
  | _ => ("RuleShuttleModel", "chain", "[I", true)
def tyX12 : Nat → FieldType := fun k => match k with
  | 0 => .array .int
  | 1 => .array .int
  | 2 => .array .int
  | 3 => .array .long
  | 4 => .array .long
  | 5 => .int
  | 6 => .int
  | 7 => .int
  | 8 => .int
  | 9 => .boolean
  | 10 => .int
  | 11 => .int
  | 12 => .int
  | 13 => .int
  | 14 => .int
  | 15 => .int
  | 16 => .int
  | 17 => .int
  | 18 => .long
  | 19 => .int
  | 20 => .int
  | 21 => .int
  | 22 => .array .int
  | 23 => .array .int
  | 24 => .array .int
  | 25 => .array .int
  | 26 => .array .int
  | 27 => .int
  | 28 => .array .int
  | 29 => .array .int
  | 30 => .array .int
  | 31 => .int
  | 32 => .array .int
  | 33 => .int
  | 34 => .array .int
  | 35 => .array .int
  | 36 => .array .int
  | 37 => .array .int
  | 38 => .array .int
  | 39 => .int
  | 40 => .int
  | 41 => .boolean
  | 42 => .boolean
  | 43 => .array .int
  | 44 => .array .int
  | 45 => .array .int
  | 46 => .array .int
  | 47 => .array .int
  | 48 => .array .int
  | 49 => .array .int
  | 50 => .int
  | 51 => .int
  | 52 => .int
  | 53 => .boolean
  | 54 => .int
  | 55 => .int
  | 56 => .array .int
  | 57 => .array .int
  | 58 => .array .int
  | 59 => .array .int
  | 60 => .array .int
  | 61 => .array .int
  | 62 => .array .int
  | 63 => .array .int
  | 64 => .array .int
  | 65 => .array .int
  | 66 => .array .boolean
  | 67 => .array .boolean
  | 68 => .array .boolean
  | 69 => .array .boolean
  | 70 => .array .boolean
  | 71 => .array .boolean
  | 72 => .int
  | 73 => .array .int
  | _ => .array .int
abbrev wsX120 : List Cond := u_ws RX12 TX12 75
theorem nmX12 : ∀ a, a < 75 → ∀ b, b < 75 → a ≠ b → (TX12 a).2.1 ≠ (TX12 b).2.1 := by decide +kernel
theorem tyX12_ok : ∀ k, k < 75 → parseFieldDescriptor (TX12 k).2.2.1 = some (tyX12 k) := by decide +kernel
abbrev cX12_init : ByteArray := prog_14_method_1_code
def yX12_init : MethodName := ⟨RX12, "<init>", "()V"⟩
abbrev cX12_status : ByteArray := prog_14_method_2_code
def yX12_status : MethodName := ⟨RX12, "status", "()I"⟩
abbrev cX12_refuse : ByteArray := prog_14_method_3_code
def yX12_refuse : MethodName := ⟨RX12, "refuse", "(I)I"⟩
abbrev cX12_gives : ByteArray := prog_14_method_4_code
def yX12_gives : MethodName := ⟨RX12, "gives", "(I)I"⟩
abbrev cX12_isFrom : ByteArray := prog_14_method_5_code
def yX12_isFrom : MethodName := ⟨RX12, "isFrom", "(III)Z"⟩
abbrev cX12_has : ByteArray := prog_14_method_6_code
def yX12_has : MethodName := ⟨RX12, "has", "(II)Z"⟩
abbrev cX12_come : ByteArray := prog_14_method_7_code
def yX12_come : MethodName := ⟨RX12, "come", "(I)V"⟩
abbrev cX12_feed : ByteArray := prog_14_method_8_code
def yX12_feed : MethodName := ⟨RX12, "feed", "(IIIII)I"⟩
abbrev cX12_byteAt : ByteArray := prog_14_method_9_code
def yX12_byteAt : MethodName := ⟨RX12, "byteAt", "(I)I"⟩
abbrev cX12_isLetter : ByteArray := prog_14_method_10_code
def yX12_isLetter : MethodName := ⟨RX12, "isLetter", "(I)Z"⟩
abbrev cX12_isDigit : ByteArray := prog_14_method_11_code
def yX12_isDigit : MethodName := ⟨RX12, "isDigit", "(I)Z"⟩
abbrev cX12_isKnownSign : ByteArray := prog_14_method_12_code
def yX12_isKnownSign : MethodName := ⟨RX12, "isKnownSign", "(I)Z"⟩
abbrev cX12_go : ByteArray := prog_14_method_13_code
def yX12_go : MethodName := ⟨RX12, "go", "()V"⟩
abbrev cX12_spelt : ByteArray := prog_14_method_14_code
def yX12_spelt : MethodName := ⟨RX12, "spelt", "(IIIIII)J"⟩
abbrev cX12_wordOf : ByteArray := prog_14_method_15_code
def yX12_wordOf : MethodName := ⟨RX12, "wordOf", "(I)J"⟩
abbrev cX12_isWord : ByteArray := prog_14_method_16_code
def yX12_isWord : MethodName := ⟨RX12, "isWord", "(I)Z"⟩
abbrev cX12_isName : ByteArray := prog_14_method_17_code
def yX12_isName : MethodName := ⟨RX12, "isName", "()Z"⟩
abbrev cX12_isSign : ByteArray := prog_14_method_18_code
def yX12_isSign : MethodName := ⟨RX12, "isSign", "(I)Z"⟩
abbrev cX12_bad : ByteArray := prog_14_method_19_code
def yX12_bad : MethodName := ⟨RX12, "bad", "(I)Z"⟩
abbrev cX12_badAt : ByteArray := prog_14_method_20_code
def yX12_badAt : MethodName := ⟨RX12, "badAt", "(II)Z"⟩
abbrev cX12_eats : ByteArray := prog_14_method_21_code
def yX12_eats : MethodName := ⟨RX12, "eats", "(I)Z"⟩
abbrev cX12_findIn : ByteArray := prog_14_method_22_code
def yX12_findIn : MethodName := ⟨RX12, "findIn", "([JIIJ)I"⟩
abbrev cX12_attributesIn : ByteArray := prog_14_method_23_code
def yX12_attributesIn : MethodName := ⟨RX12, "attributesIn", "([II)I"⟩
abbrev cX12_readAttributes : ByteArray := prog_14_method_24_code
def yX12_readAttributes : MethodName := ⟨RX12, "readAttributes", "(II)Z"⟩
abbrev cX12_readSymbol : ByteArray := prog_14_method_25_code
def yX12_readSymbol : MethodName := ⟨RX12, "readSymbol", "()Z"⟩
abbrev cX12_readProduction : ByteArray := prog_14_method_26_code
def yX12_readProduction : MethodName := ⟨RX12, "readProduction", "()Z"⟩
abbrev cX12_symbolAt : ByteArray := prog_14_method_27_code
def yX12_symbolAt : MethodName := ⟨RX12, "symbolAt", "([III)I"⟩
abbrev cX12_isPosition : ByteArray := prog_14_method_28_code
def yX12_isPosition : MethodName := ⟨RX12, "isPosition", "([III)Z"⟩
abbrev cX12_canTell : ByteArray := prog_14_method_29_code
def yX12_canTell : MethodName := ⟨RX12, "canTell", "([III)Z"⟩
abbrev cX12_readOccName : ByteArray := prog_14_method_30_code
def yX12_readOccName : MethodName := ⟨RX12, "readOccName", "(II)Z"⟩
abbrev cX12_readRule : ByteArray := prog_14_method_31_code
def yX12_readRule : MethodName := ⟨RX12, "readRule", "()Z"⟩
abbrev cX12_codes : ByteArray := prog_14_method_32_code
def yX12_codes : MethodName := ⟨RX12, "codes", "(II)V"⟩
abbrev cX12_joint : ByteArray := prog_14_method_33_code
def yX12_joint : MethodName := ⟨RX12, "joint", "()I"⟩
abbrev cX12_readSum : ByteArray := prog_14_method_34_code
def yX12_readSum : MethodName := ⟨RX12, "readSum", "(II)Z"⟩
abbrev cX12_opens : ByteArray := prog_14_method_35_code
def yX12_opens : MethodName := ⟨RX12, "opens", "(I)Z"⟩
abbrev cX12_readPart : ByteArray := prog_14_method_36_code
def yX12_readPart : MethodName := ⟨RX12, "readPart", "(II)Z"⟩
abbrev cX12_readNumber : ByteArray := prog_14_method_37_code
def yX12_readNumber : MethodName := ⟨RX12, "readNumber", "(I)Z"⟩
abbrev cX12_readLine : ByteArray := prog_14_method_38_code
def yX12_readLine : MethodName := ⟨RX12, "readLine", "()Z"⟩
abbrev cX12_begins : ByteArray := prog_14_method_39_code
def yX12_begins : MethodName := ⟨RX12, "begins", "(I)V"⟩
abbrev cX12_ends : ByteArray := prog_14_method_40_code
def yX12_ends : MethodName := ⟨RX12, "ends", "(Z)I"⟩
abbrev cX12_grammar : ByteArray := prog_14_method_41_code
def yX12_grammar : MethodName := ⟨RX12, "grammar", "(I)I"⟩
abbrev cX12_fault : ByteArray := prog_14_method_42_code
def yX12_fault : MethodName := ⟨RX12, "fault", "(I)I"⟩
abbrev cX12_isSymbol : ByteArray := prog_14_method_43_code
def yX12_isSymbol : MethodName := ⟨RX12, "isSymbol", "(I)Z"⟩
abbrev cX12_isProduction : ByteArray := prog_14_method_44_code
def yX12_isProduction : MethodName := ⟨RX12, "isProduction", "(I)Z"⟩
abbrev cX12_attributes : ByteArray := prog_14_method_45_code
def yX12_attributes : MethodName := ⟨RX12, "attributes", "(I)I"⟩
abbrev cX12_isAttribute : ByteArray := prog_14_method_46_code
def yX12_isAttribute : MethodName := ⟨RX12, "isAttribute", "(II)Z"⟩
abbrev cX12_isOcc : ByteArray := prog_14_method_47_code
def yX12_isOcc : MethodName := ⟨RX12, "isOcc", "(II)Z"⟩
abbrev cX12_asks : ByteArray := prog_14_method_48_code
def yX12_asks : MethodName := ⟨RX12, "asks", "(II)I"⟩
abbrev cX12_laysRules : ByteArray := prog_14_method_49_code
def yX12_laysRules : MethodName := ⟨RX12, "laysRules", "(I)V"⟩
abbrev cX12_addsInduced : ByteArray := prog_14_method_50_code
def yX12_addsInduced : MethodName := ⟨RX12, "addsInduced", "(I)V"⟩
abbrev cX12_closes : ByteArray := prog_14_method_51_code
def yX12_closes : MethodName := ⟨RX12, "closes", "()V"⟩
abbrev cX12_laysClosed : ByteArray := prog_14_method_52_code
def yX12_laysClosed : MethodName := ⟨RX12, "laysClosed", "(I)V"⟩
abbrev cX12_induces : ByteArray := prog_14_method_53_code
def yX12_induces : MethodName := ⟨RX12, "induces", "()V"⟩
abbrev cX12_isSelf : ByteArray := prog_14_method_54_code
def yX12_isSelf : MethodName := ⟨RX12, "isSelf", "(I)Z"⟩
abbrev cX12_isSelfIn : ByteArray := prog_14_method_55_code
def yX12_isSelfIn : MethodName := ⟨RX12, "isSelfIn", "(I)Z"⟩
abbrev cX12_firstSelf : ByteArray := prog_14_method_56_code
def yX12_firstSelf : MethodName := ⟨RX12, "firstSelf", "()I"⟩
abbrev cX12_findsCircle : ByteArray := prog_14_method_57_code
def yX12_findsCircle : MethodName := ⟨RX12, "findsCircle", "()I"⟩
abbrev cX12_laysRing : ByteArray := prog_14_method_58_code
def yX12_laysRing : MethodName := ⟨RX12, "laysRing", "(I)V"⟩
abbrev cX12_isFree : ByteArray := prog_14_method_59_code
def yX12_isFree : MethodName := ⟨RX12, "isFree", "(II)Z"⟩
abbrev cX12_fillsSet : ByteArray := prog_14_method_60_code
def yX12_fillsSet : MethodName := ⟨RX12, "fillsSet", "(IZ)V"⟩
abbrev cX12_laysVisits : ByteArray := prog_14_method_61_code
def yX12_laysVisits : MethodName := ⟨RX12, "laysVisits", "(I)V"⟩
abbrev cX12_laysAllVisits : ByteArray := prog_14_method_62_code
def yX12_laysAllVisits : MethodName := ⟨RX12, "laysAllVisits", "()V"⟩
abbrev cX12_addsVisits : ByteArray := prog_14_method_63_code
def yX12_addsVisits : MethodName := ⟨RX12, "addsVisits", "(I)V"⟩
abbrev cX12_laysOrdered : ByteArray := prog_14_method_64_code
def yX12_laysOrdered : MethodName := ⟨RX12, "laysOrdered", "(I)V"⟩
abbrev cX12_block : ByteArray := prog_14_method_65_code
def yX12_block : MethodName := ⟨RX12, "block", "()I"⟩
abbrev cX12_step : ByteArray := prog_14_method_66_code
def yX12_step : MethodName := ⟨RX12, "step", "(I)V"⟩
abbrev cX12_insOf : ByteArray := prog_14_method_67_code
def yX12_insOf : MethodName := ⟨RX12, "insOf", "(III)I"⟩
abbrev cX12_outsOf : ByteArray := prog_14_method_68_code
def yX12_outsOf : MethodName := ⟨RX12, "outsOf", "(III)I"⟩
abbrev cX12_nextRule : ByteArray := prog_14_method_69_code
def yX12_nextRule : MethodName := ⟨RX12, "nextRule", "(II)I"⟩
abbrev cX12_nextChild : ByteArray := prog_14_method_70_code
def yX12_nextChild : MethodName := ⟨RX12, "nextChild", "(II)I"⟩
abbrev cX12_laysPlan : ByteArray := prog_14_method_71_code
def yX12_laysPlan : MethodName := ⟨RX12, "laysPlan", "(I)V"⟩
abbrev cX12_keepsShade : ByteArray := prog_14_method_72_code
def yX12_keepsShade : MethodName := ⟨RX12, "keepsShade", "(II)V"⟩
abbrev cX12_shadesBy : ByteArray := prog_14_method_73_code
def yX12_shadesBy : MethodName := ⟨RX12, "shadesBy", "(I)V"⟩
abbrev cX12_chooses : ByteArray := prog_14_method_74_code
def yX12_chooses : MethodName := ⟨RX12, "chooses", "(II)V"⟩
abbrev cX12_round : ByteArray := prog_14_method_75_code
def yX12_round : MethodName := ⟨RX12, "round", "()V"⟩
abbrev cX12_seeks : ByteArray := prog_14_method_76_code
def yX12_seeks : MethodName := ⟨RX12, "seeks", "(Z)V"⟩
abbrev cX12_many : ByteArray := prog_14_method_77_code
def yX12_many : MethodName := ⟨RX12, "many", "(I)I"⟩
abbrev cX12_symbol : ByteArray := prog_14_method_78_code
def yX12_symbol : MethodName := ⟨RX12, "symbol", "(II)I"⟩
abbrev cX12_production : ByteArray := prog_14_method_79_code
def yX12_production : MethodName := ⟨RX12, "production", "(II)I"⟩
abbrev cX12_hangs : ByteArray := prog_14_method_80_code
def yX12_hangs : MethodName := ⟨RX12, "hangs", "(IIII)I"⟩
abbrev cX12_induced : ByteArray := prog_14_method_81_code
def yX12_induced : MethodName := ⟨RX12, "induced", "(III)I"⟩
abbrev cX12_circle : ByteArray := prog_14_method_82_code
def yX12_circle : MethodName := ⟨RX12, "circle", "(I)I"⟩
abbrev cX12_visit : ByteArray := prog_14_method_83_code
def yX12_visit : MethodName := ⟨RX12, "visit", "(II)I"⟩
abbrev cX12_ordered : ByteArray := prog_14_method_84_code
def yX12_ordered : MethodName := ⟨RX12, "ordered", "(I)I"⟩
abbrev cX12_plan : ByteArray := prog_14_method_85_code
def yX12_plan : MethodName := ⟨RX12, "plan", "(II)I"⟩
abbrev cX12_real : ByteArray := prog_14_method_86_code
def yX12_real : MethodName := ⟨RX12, "real", "(I)I"⟩
abbrev cX12_shades : ByteArray := prog_14_method_87_code
def yX12_shades : MethodName := ⟨RX12, "shades", "(I)I"⟩
abbrev cX12_readNode : ByteArray := prog_14_method_88_code
def yX12_readNode : MethodName := ⟨RX12, "readNode", "(III)Z"⟩
abbrev cX12_readTree : ByteArray := prog_14_method_89_code
def yX12_readTree : MethodName := ⟨RX12, "readTree", "(III)Z"⟩
abbrev cX12_tree : ByteArray := prog_14_method_90_code
def yX12_tree : MethodName := ⟨RX12, "tree", "(I)I"⟩
abbrev cX12_isNode : ByteArray := prog_14_method_91_code
def yX12_isNode : MethodName := ⟨RX12, "isNode", "(I)Z"⟩
abbrev cX12_symbolOf : ByteArray := prog_14_method_92_code
def yX12_symbolOf : MethodName := ⟨RX12, "symbolOf", "(I)I"⟩
abbrev cX12_isInstance : ByteArray := prog_14_method_93_code
def yX12_isInstance : MethodName := ⟨RX12, "isInstance", "(II)Z"⟩
abbrev cX12_sizeOf : ByteArray := prog_14_method_94_code
def yX12_sizeOf : MethodName := ⟨RX12, "sizeOf", "(I)I"⟩
abbrev cX12_depthOf : ByteArray := prog_14_method_95_code
def yX12_depthOf : MethodName := ⟨RX12, "depthOf", "(I)I"⟩
abbrev cX12_child : ByteArray := prog_14_method_96_code
def yX12_child : MethodName := ⟨RX12, "child", "(II)I"⟩
abbrev cX12_positionOf : ByteArray := prog_14_method_97_code
def yX12_positionOf : MethodName := ⟨RX12, "positionOf", "(I)I"⟩
abbrev cX12_node : ByteArray := prog_14_method_98_code
def yX12_node : MethodName := ⟨RX12, "node", "(II)I"⟩
abbrev cX12_bit : ByteArray := prog_14_method_99_code
def yX12_bit : MethodName := ⟨RX12, "bit", "([III)Z"⟩
abbrev cX12_instanceOf : ByteArray := prog_14_method_100_code
def yX12_instanceOf : MethodName := ⟨RX12, "instanceOf", "(II)I"⟩
abbrev cX12_laysBases : ByteArray := prog_14_method_101_code
def yX12_laysBases : MethodName := ⟨RX12, "laysBases", "()V"⟩
abbrev cX12_asksOf : ByteArray := prog_14_method_102_code
def yX12_asksOf : MethodName := ⟨RX12, "asksOf", "(I)I"⟩
abbrev cX12_laysReach : ByteArray := prog_14_method_103_code
def yX12_laysReach : MethodName := ⟨RX12, "laysReach", "()V"⟩
abbrev cX12_laysKnots : ByteArray := prog_14_method_104_code
def yX12_laysKnots : MethodName := ⟨RX12, "laysKnots", "()V"⟩
abbrev cX12_knots : ByteArray := prog_14_method_105_code
def yX12_knots : MethodName := ⟨RX12, "knots", "()I"⟩
abbrev cX12_joined : ByteArray := prog_14_method_106_code
def yX12_joined : MethodName := ⟨RX12, "joined", "(III)I"⟩
abbrev cX12_worked : ByteArray := prog_14_method_107_code
def yX12_worked : MethodName := ⟨RX12, "worked", "(I)I"⟩
abbrev cX12_isReady : ByteArray := prog_14_method_108_code
def yX12_isReady : MethodName := ⟨RX12, "isReady", "(I)Z"⟩
abbrev cX12_isKnotReady : ByteArray := prog_14_method_109_code
def yX12_isKnotReady : MethodName := ⟨RX12, "isKnotReady", "(I)Z"⟩
abbrev cX12_turnsKnot : ByteArray := prog_14_method_110_code
def yX12_turnsKnot : MethodName := ⟨RX12, "turnsKnot", "(I)V"⟩
abbrev cX12_settles : ByteArray := prog_14_method_111_code
def yX12_settles : MethodName := ⟨RX12, "settles", "()V"⟩
abbrev cX12_hasTree : ByteArray := prog_14_method_112_code
def yX12_hasTree : MethodName := ⟨RX12, "hasTree", "()Z"⟩
abbrev cX12_value : ByteArray := prog_14_method_113_code
def yX12_value : MethodName := ⟨RX12, "value", "(II)I"⟩
abbrev cX12_knot : ByteArray := prog_14_method_114_code
def yX12_knot : MethodName := ⟨RX12, "knot", "(III)I"⟩
abbrev cX12_span : ByteArray := prog_14_method_115_code
def yX12_span : MethodName := ⟨RX12, "span", "(III)I"⟩
abbrev cX12_run : ByteArray := prog_14_method_116_code
def yX12_run : MethodName := ⟨RX12, "run", "(I)I"⟩
abbrev cX12_longest : ByteArray := prog_14_method_117_code
def yX12_longest : MethodName := ⟨RX12, "longest", "()I"⟩
abbrev cX12_beginsChange : ByteArray := prog_14_method_118_code
def yX12_beginsChange : MethodName := ⟨RX12, "beginsChange", "()V"⟩
abbrev cX12_hangsOnChanged : ByteArray := prog_14_method_119_code
def yX12_hangsOnChanged : MethodName := ⟨RX12, "hangsOnChanged", "(I)Z"⟩
abbrev cX12_isTouched : ByteArray := prog_14_method_120_code
def yX12_isTouched : MethodName := ⟨RX12, "isTouched", "(I)Z"⟩
abbrev cX12_isOf : ByteArray := prog_14_method_121_code
def yX12_isOf : MethodName := ⟨RX12, "isOf", "(II)Z"⟩
abbrev cX12_counts : ByteArray := prog_14_method_122_code
def yX12_counts : MethodName := ⟨RX12, "counts", "()V"⟩
abbrev cX12_asksOwn : ByteArray := prog_14_method_123_code
def yX12_asksOwn : MethodName := ⟨RX12, "asksOwn", "(I)Z"⟩
abbrev cX12_put : ByteArray := prog_14_method_124_code
def yX12_put : MethodName := ⟨RX12, "put", "(II)I"⟩
abbrev cX12_give : ByteArray := prog_14_method_125_code
def yX12_give : MethodName := ⟨RX12, "give", "(II)I"⟩
abbrev cX12_graft : ByteArray := prog_14_method_126_code
def yX12_graft : MethodName := ⟨RX12, "graft", "(II)I"⟩
abbrev cX12_wasTied : ByteArray := prog_14_method_127_code
def yX12_wasTied : MethodName := ⟨RX12, "wasTied", "(III)Z"⟩
abbrev cX12_movesBehind : ByteArray := prog_14_method_128_code
def yX12_movesBehind : MethodName := ⟨RX12, "movesBehind", "(II)V"⟩
abbrev cX12_anew : ByteArray := prog_14_method_129_code
def yX12_anew : MethodName := ⟨RX12, "anew", "(I)I"⟩
abbrev cX12_digest : ByteArray := prog_14_method_130_code
def yX12_digest : MethodName := ⟨RX12, "digest", "()I"⟩
def RJ6 : String := "java/lang/Integer"
def TJ6 : u_T := fun k => match k with
  | _ => ("", "", "", false)
def tyJ6 : Nat → FieldType := fun k => match k with
  | _ => .int
abbrev wsJ60 : List Cond := u_ws RJ6 TJ6 0
theorem nmJ6 : ∀ a, a < 0 → ∀ b, b < 0 → a ≠ b → (TJ6 a).2.1 ≠ (TJ6 b).2.1 := by decide +kernel
theorem tyJ6_ok : ∀ k, k < 0 → parseFieldDescriptor (TJ6 k).2.2.1 = some (tyJ6 k) := by decide +kernel
abbrev cJ6_numberOfTrailingZeros_0f7a4 : ByteArray := prog_15_method_48_code
def yJ6_numberOfTrailingZeros_0f7a4 : MethodName := ⟨RJ6, "numberOfTrailingZeros", "(I)I"⟩
abbrev cJ6_bitCount_0f7a4 : ByteArray := prog_15_method_49_code
def yJ6_bitCount_0f7a4 : MethodName := ⟨RJ6, "bitCount", "(I)I"⟩
def RJ9 : String := "java/lang/Math"
def TJ9 : u_T := fun k => match k with
  | _ => ("", "", "", false)
def tyJ9 : Nat → FieldType := fun k => match k with
  | _ => .int
abbrev wsJ90 : List Cond := u_ws RJ9 TJ9 0
theorem nmJ9 : ∀ a, a < 0 → ∀ b, b < 0 → a ≠ b → (TJ9 a).2.1 ≠ (TJ9 b).2.1 := by decide +kernel
theorem tyJ9_ok : ∀ k, k < 0 → parseFieldDescriptor (TJ9 k).2.2.1 = some (tyJ9 k) := by decide +kernel
abbrev cJ9_max_7cf53 : ByteArray := prog_16_method_65_code
def yJ9_max_7cf53 : MethodName := ⟨RJ9, "max", "(II)I"⟩
abbrev cJ9_min_7cf53 : ByteArray := prog_16_method_69_code
def yJ9_min_7cf53 : MethodName := ⟨RJ9, "min", "(II)I"⟩
def RJ10 : String := "java/lang/System"
def TJ10 : u_T := fun k => match k with
  | _ => ("", "", "", false)
def tyJ10 : Nat → FieldType := fun k => match k with
  | _ => .int
abbrev wsJ100 : List Cond := u_ws RJ10 TJ10 0
theorem nmJ10 : ∀ a, a < 0 → ∀ b, b < 0 → a ≠ b → (TJ10 a).2.1 ≠ (TJ10 b).2.1 := by decide +kernel
theorem tyJ10_ok : ∀ k, k < 0 → parseFieldDescriptor (TJ10 k).2.2.1 = some (tyJ10 k) := by decide +kernel
def RJ7 : String := "java/util/Arrays"
def TJ7 : u_T := fun k => match k with
  | _ => ("", "", "", false)
def tyJ7 : Nat → FieldType := fun k => match k with
  | _ => .int
abbrev wsJ70 : List Cond := u_ws RJ7 TJ7 0
theorem nmJ7 : ∀ a, a < 0 → ∀ b, b < 0 → a ≠ b → (TJ7 a).2.1 ≠ (TJ7 b).2.1 := by decide +kernel
theorem tyJ7_ok : ∀ k, k < 0 → parseFieldDescriptor (TJ7 k).2.2.1 = some (tyJ7 k) := by decide +kernel
abbrev cJ7_fill_53178 : ByteArray := prog_18_method_103_code
def yJ7_fill_53178 : MethodName := ⟨RJ7, "fill", "([II)V"⟩
def RL : String := "RuleShuttleLaw"
abbrev cL_law : ByteArray := code
def yL_law : MethodName := ⟨RL, "law", "([I)Z"⟩
abbrev vwCl : List vw_C := [(RX0, TX0, 8), (RX1, TX1, 19), (RX2, TX2, 5), (RX3, TX3, 4), (RX4, TX4, 16), (RX5, TX5, 10), (RX6, TX6, 11), (RX7, TX7, 11), (RX8, TX8, 19), (RX9, TX9, 4), (RX10, TX10, 7), (RX11, TX11, 17), (RX12, TX12, 75)]
def Tg : List Cond := lw_tbl.filter goodWord
theorem Tg_in {w : Cond} (i : Nat) (h : lw_tbl[i]? = some w) (hg : goodWord w = true) : w ∈ Tg := List.mem_filter.mpr ⟨List.mem_of_getElem? h, hg⟩
theorem Tg_in0 {w : Cond} (i : Nat) (h : (k2_sels lw_privs)[i]? = some w) (hg : goodWord w = true) : w ∈ Tg := List.mem_filter.mpr ⟨List.mem_append_left _ (List.mem_of_getElem? h), hg⟩
theorem Tg_in1 {w : Cond} (i : Nat) (h : tables_1_1[i]? = some w) (hg : goodWord w = true) : w ∈ Tg := List.mem_filter.mpr ⟨List.mem_append_right _ (List.mem_append_left _ (List.mem_of_getElem? h)), hg⟩
theorem Tg_in2 {w : Cond} (i : Nat) (h : tables_1_2[i]? = some w) (hg : goodWord w = true) : w ∈ Tg := List.mem_filter.mpr ⟨List.mem_append_right _ (List.mem_append_right _ (List.mem_append_left _ (List.mem_of_getElem? h))), hg⟩
theorem Tg_in3 {w : Cond} (i : Nat) (h : tables_1_3[i]? = some w) (hg : goodWord w = true) : w ∈ Tg := List.mem_filter.mpr ⟨List.mem_append_right _ (List.mem_append_right _ (List.mem_append_right _ (List.mem_append_left _ (List.mem_of_getElem? h)))), hg⟩
theorem Tg_in4 {w : Cond} (i : Nat) (h : tables_1_4[i]? = some w) (hg : goodWord w = true) : w ∈ Tg := List.mem_filter.mpr ⟨List.mem_append_right _ (List.mem_append_right _ (List.mem_append_right _ (List.mem_append_right _ (List.mem_append_left _ (List.mem_of_getElem? h))))), hg⟩
theorem Tg_in5 {w : Cond} (i : Nat) (h : tables_1_5[i]? = some w) (hg : goodWord w = true) : w ∈ Tg := List.mem_filter.mpr ⟨List.mem_append_right _ (List.mem_append_right _ (List.mem_append_right _ (List.mem_append_right _ (List.mem_append_right _ (List.mem_append_left _ (List.mem_of_getElem? h)))))), hg⟩
theorem Tg_in6 {w : Cond} (i : Nat) (h : tables_1_6[i]? = some w) (hg : goodWord w = true) : w ∈ Tg := List.mem_filter.mpr ⟨List.mem_append_right _ (List.mem_append_right _ (List.mem_append_right _ (List.mem_append_right _ (List.mem_append_right _ (List.mem_append_right _ (List.mem_append_left _ (List.mem_of_getElem? h))))))), hg⟩
theorem Tg_in7 {w : Cond} (i : Nat) (h : tables_1_7[i]? = some w) (hg : goodWord w = true) : w ∈ Tg := List.mem_filter.mpr ⟨List.mem_append_right _ (List.mem_append_right _ (List.mem_append_right _ (List.mem_append_right _ (List.mem_append_right _ (List.mem_append_right _ (List.mem_append_right _ (List.mem_append_left _ (List.mem_of_getElem? h)))))))), hg⟩
theorem Tg_in8 {w : Cond} (i : Nat) (h : tables_1_8[i]? = some w) (hg : goodWord w = true) : w ∈ Tg := List.mem_filter.mpr ⟨List.mem_append_right _ (List.mem_append_right _ (List.mem_append_right _ (List.mem_append_right _ (List.mem_append_right _ (List.mem_append_right _ (List.mem_append_right _ (List.mem_append_right _ (List.mem_append_left _ (List.mem_of_getElem? h))))))))), hg⟩
theorem Tg_in9 {w : Cond} (i : Nat) (h : tables_1_9[i]? = some w) (hg : goodWord w = true) : w ∈ Tg := List.mem_filter.mpr ⟨List.mem_append_right _ (List.mem_append_right _ (List.mem_append_right _ (List.mem_append_right _ (List.mem_append_right _ (List.mem_append_right _ (List.mem_append_right _ (List.mem_append_right _ (List.mem_append_right _ (List.mem_of_getElem? h))))))))), hg⟩
theorem Tg_good {w : Cond} (h : w ∈ Tg) : goodWord w = true := (List.mem_filter.mp h).2
theorem Tg_tbl {w : Cond} (h : w ∈ Tg) : w ∈ lw_tbl := (List.mem_filter.mp h).1
set_option maxRecDepth 100000 in
theorem inX0 : ∀ w ∈ wsX00, w ∈ Tg := by
  have h : wsX00 = [405, 407, 409, 411, 413, 415, 417, 419].filterMap (fun i => lw_tbl[i]?) := by decide +kernel
  have g : wsX00.all goodWord = true := by decide +kernel
  intro w hw
  have h1 := List.all_eq_true.mp g w hw
  rw [h] at hw
  obtain ⟨i, -, hi⟩ := List.mem_filterMap.mp hw
  exact Tg_in i hi h1
set_option maxRecDepth 100000 in
theorem inX1 : ∀ w ∈ wsX10, w ∈ Tg := by
  have h : wsX10 = [485, 487, 489, 491, 493, 495, 497, 499, 501, 503, 505, 507, 509, 511, 513, 515, 517, 519, 521].filterMap (fun i => lw_tbl[i]?) := by decide +kernel
  have g : wsX10.all goodWord = true := by decide +kernel
  intro w hw
  have h1 := List.all_eq_true.mp g w hw
  rw [h] at hw
  obtain ⟨i, -, hi⟩ := List.mem_filterMap.mp hw
  exact Tg_in i hi h1
set_option maxRecDepth 100000 in
theorem inX2 : ∀ w ∈ wsX20, w ∈ Tg := by
  have h : wsX20 = [245, 247, 249, 251, 253].filterMap (fun i => lw_tbl[i]?) := by decide +kernel
  have g : wsX20.all goodWord = true := by decide +kernel
  intro w hw
  have h1 := List.all_eq_true.mp g w hw
  rw [h] at hw
  obtain ⟨i, -, hi⟩ := List.mem_filterMap.mp hw
  exact Tg_in i hi h1
set_option maxRecDepth 100000 in
theorem inX3 : ∀ w ∈ wsX30, w ∈ Tg := by
  have h : wsX30 = [291, 293, 295, 297].filterMap (fun i => lw_tbl[i]?) := by decide +kernel
  have g : wsX30.all goodWord = true := by decide +kernel
  intro w hw
  have h1 := List.all_eq_true.mp g w hw
  rw [h] at hw
  obtain ⟨i, -, hi⟩ := List.mem_filterMap.mp hw
  exact Tg_in i hi h1
set_option maxRecDepth 100000 in
theorem inX4 : ∀ w ∈ wsX40, w ∈ Tg := by
  have h : wsX40 = [655, 657, 659, 661, 663, 665, 667, 669, 671, 673, 675, 677, 679, 681, 683, 685].filterMap (fun i => lw_tbl[i]?) := by decide +kernel
  have g : wsX40.all goodWord = true := by decide +kernel
  intro w hw
  have h1 := List.all_eq_true.mp g w hw
  rw [h] at hw
  obtain ⟨i, -, hi⟩ := List.mem_filterMap.mp hw
  exact Tg_in i hi h1
set_option maxRecDepth 100000 in
theorem inX5 : ∀ w ∈ wsX50, w ∈ Tg := by
  have h : wsX50 = [323, 325, 327, 329, 331, 333, 335, 337, 339, 341].filterMap (fun i => lw_tbl[i]?) := by decide +kernel
  have g : wsX50.all goodWord = true := by decide +kernel
  intro w hw
  have h1 := List.all_eq_true.mp g w hw
  rw [h] at hw
  obtain ⟨i, -, hi⟩ := List.mem_filterMap.mp hw
  exact Tg_in i hi h1
set_option maxRecDepth 100000 in
theorem inX6 : ∀ w ∈ wsX60, w ∈ Tg := by
  have h : wsX60 = [366, 368, 370, 372, 374, 376, 378, 380, 382, 384, 386].filterMap (fun i => lw_tbl[i]?) := by decide +kernel
  have g : wsX60.all goodWord = true := by decide +kernel
  intro w hw
  have h1 := List.all_eq_true.mp g w hw
  rw [h] at hw
  obtain ⟨i, -, hi⟩ := List.mem_filterMap.mp hw
  exact Tg_in i hi h1
set_option maxRecDepth 100000 in
theorem inX7 : ∀ w ∈ wsX70, w ∈ Tg := by
  have h : wsX70 = [208, 210, 212, 214, 216, 218, 220, 222, 224, 226, 228].filterMap (fun i => lw_tbl[i]?) := by decide +kernel
  have g : wsX70.all goodWord = true := by decide +kernel
  intro w hw
  have h1 := List.all_eq_true.mp g w hw
  rw [h] at hw
  obtain ⟨i, -, hi⟩ := List.mem_filterMap.mp hw
  exact Tg_in i hi h1
set_option maxRecDepth 100000 in
theorem inX8 : ∀ w ∈ wsX80, w ∈ Tg := by
  have h : wsX80 = [580, 582, 584, 586, 588, 590, 592, 594, 596, 598, 600, 602, 604, 606, 608, 610, 612, 614, 616].filterMap (fun i => lw_tbl[i]?) := by decide +kernel
  have g : wsX80.all goodWord = true := by decide +kernel
  intro w hw
  have h1 := List.all_eq_true.mp g w hw
  rw [h] at hw
  obtain ⟨i, -, hi⟩ := List.mem_filterMap.mp hw
  exact Tg_in i hi h1
set_option maxRecDepth 100000 in
theorem inX9 : ∀ w ∈ wsX90, w ∈ Tg := by
  have h : wsX90 = [266, 268, 270, 272].filterMap (fun i => lw_tbl[i]?) := by decide +kernel
  have g : wsX90.all goodWord = true := by decide +kernel
  intro w hw
  have h1 := List.all_eq_true.mp g w hw
  rw [h] at hw
  obtain ⟨i, -, hi⟩ := List.mem_filterMap.mp hw
  exact Tg_in i hi h1
set_option maxRecDepth 100000 in
theorem inX10 : ∀ w ∈ wsX100, w ∈ Tg := by
  have h : wsX100 = [703, 705, 707, 709, 711, 713, 715].filterMap (fun i => lw_tbl[i]?) := by decide +kernel
  have g : wsX100.all goodWord = true := by decide +kernel
  intro w hw
  have h1 := List.all_eq_true.mp g w hw
  rw [h] at hw
  obtain ⟨i, -, hi⟩ := List.mem_filterMap.mp hw
  exact Tg_in i hi h1
set_option maxRecDepth 100000 in
theorem inX11 : ∀ w ∈ wsX110, w ∈ Tg := by
  have h : wsX110 = [735, 737, 739, 741, 743, 745, 747, 749, 751, 753, 755, 757, 759, 761, 763, 765, 767].filterMap (fun i => lw_tbl[i]?) := by decide +kernel
  have g : wsX110.all goodWord = true := by decide +kernel
  intro w hw
  have h1 := List.all_eq_true.mp g w hw
  rw [h] at hw
  obtain ⟨i, -, hi⟩ := List.mem_filterMap.mp hw
  exact Tg_in i hi h1
set_option maxRecDepth 100000 in
theorem inX12 : ∀ w ∈ wsX120, w ∈ Tg := by
  have h : wsX120 = [1633, 1635, 1637, 1639, 1641, 1643, 1645, 1647, 1649, 1651, 1653, 1655, 1657, 1659, 1661, 1663, 1665, 1667, 1669, 1671, 1673, 1675, 1677, 1679, 1681, 1683, 1685, 1687, 1689, 1691, 1693, 1695, 1697, 1699, 1701, 1703, 1705, 1707, 1709, 1711, 1713, 1715, 1717, 1719, 1721, 1723, 1725, 1727, 1729, 1731, 1733, 1735, 1737, 1739, 1741, 1743, 1745, 1747, 1749, 1751, 1753, 1755, 1757, 1759, 1761, 1763, 1765, 1767, 1769, 1771, 1773, 1775, 1777, 1779, 1781].filterMap (fun i => lw_tbl[i]?) := by decide +kernel
  have g : wsX120.all goodWord = true := by decide +kernel
  intro w hw
  have h1 := List.all_eq_true.mp g w hw
  rw [h] at hw
  obtain ⟨i, -, hi⟩ := List.mem_filterMap.mp hw
  exact Tg_in i hi h1
