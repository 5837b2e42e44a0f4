/-! names, fields, words: written by program out of the task's own tables -/
abbrev RX0 : String := "Marginnote$ActSet"
def TX0 : u_T := fun k => match k with
  | 0 => ("Marginnote$ActSet", "members", "[Z", true)
  | _ => ("Marginnote$ActSet", "size", "I", false)
def tyX0 : Nat → FieldType := fun k => match k with
  | 0 => .array .boolean
  | _ => .int
theorem nmX0 : ∀ a, a < 2 → ∀ b, b < 2 → a ≠ b → (TX0 a).2.1 ≠ (TX0 b).2.1 := by decide +kernel
theorem tyX0_ok : ∀ k, k < 2 → parseFieldDescriptor (TX0 k).2.2.1 = some (tyX0 k) := by decide +kernel
abbrev RX1 : String := "Marginnote$Book"
def TX1 : u_T := fun k => match k with
  | 0 => ("Marginnote$Book", "writers", "[I", true)
  | 1 => ("Marginnote$Book", "counts", "[I", true)
  | 2 => ("Marginnote$Book", "kinds", "[I", true)
  | 3 => ("Marginnote$Book", "firsts", "[I", true)
  | 4 => ("Marginnote$Book", "seconds", "[I", true)
  | 5 => ("Marginnote$Book", "values", "[I", true)
  | 6 => ("Marginnote$Book", "flags", "[Z", true)
  | 7 => ("Marginnote$Book", "order", "[I", true)
  | 8 => ("Marginnote$Book", "made", "I", false)
  | _ => ("Marginnote$Book", "comments", "I", false)
def tyX1 : Nat → FieldType := fun k => match k with
  | 0 => .array .int
  | 1 => .array .int
  | 2 => .array .int
  | 3 => .array .int
  | 4 => .array .int
  | 5 => .array .int
  | 6 => .array .boolean
  | 7 => .array .int
  | 8 => .int
  | _ => .int
theorem nmX1 : ∀ a, a < 10 → ∀ b, b < 10 → a ≠ b → (TX1 a).2.1 ≠ (TX1 b).2.1 := by decide +kernel
theorem tyX1_ok : ∀ k, k < 10 → parseFieldDescriptor (TX1 k).2.2.1 = some (tyX1 k) := by decide +kernel
abbrev RX2 : String := "Marginnote$Message"
def TX2 : u_T := fun k => match k with
  | 0 => ("Marginnote$Message", "receiver", "I", true)
  | 1 => ("Marginnote$Message", "acts", "LMarginnote$ActSet;", true)
  | _ => ("Marginnote$Message", "known", "[I", true)
def tyX2 : Nat → FieldType := fun k => match k with
  | 0 => .int
  | 1 => .object "Marginnote$ActSet"
  | _ => .array .int
theorem nmX2 : ∀ a, a < 3 → ∀ b, b < 3 → a ≠ b → (TX2 a).2.1 ≠ (TX2 b).2.1 := by decide +kernel
theorem tyX2_ok : ∀ k, k < 3 → parseFieldDescriptor (TX2 k).2.2.1 = some (tyX2 k) := by decide +kernel
abbrev RX3 : String := "Marginnote$Paper"
def TX3 : u_T := fun k => match k with
  | 0 => ("Marginnote$Paper", "book", "LMarginnote$Book;", true)
  | 1 => ("Marginnote$Paper", "row", "[I", true)
  | 2 => ("Marginnote$Paper", "rowSize", "I", false)
  | 3 => ("Marginnote$Paper", "states", "[I", true)
  | 4 => ("Marginnote$Paper", "breaks", "[Z", true)
  | 5 => ("Marginnote$Paper", "removed", "[Z", true)
  | 6 => ("Marginnote$Paper", "bits", "[I", true)
  | 7 => ("Marginnote$Paper", "asked", "[Z", true)
  | 8 => ("Marginnote$Paper", "undone", "[Z", true)
  | 9 => ("Marginnote$Paper", "kinds", "[I", true)
  | 10 => ("Marginnote$Paper", "aboves", "[I", true)
  | _ => ("Marginnote$Paper", "levels", "[[I", true)
def tyX3 : Nat → FieldType := fun k => match k with
  | 0 => .object "Marginnote$Book"
  | 1 => .array .int
  | 2 => .int
  | 3 => .array .int
  | 4 => .array .boolean
  | 5 => .array .boolean
  | 6 => .array .int
  | 7 => .array .boolean
  | 8 => .array .boolean
  | 9 => .array .int
  | 10 => .array .int
  | _ => .array (.array .int)
theorem nmX3 : ∀ a, a < 12 → ∀ b, b < 12 → a ≠ b → (TX3 a).2.1 ≠ (TX3 b).2.1 := by decide +kernel
theorem tyX3_ok : ∀ k, k < 12 → parseFieldDescriptor (TX3 k).2.2.1 = some (tyX3 k) := by decide +kernel
abbrev RX4 : String := "Marginnote$Site"
def TX4 : u_T := fun k => match k with
  | 0 => ("Marginnote$Site", "number", "I", true)
  | 1 => ("Marginnote$Site", "held", "LMarginnote$ActSet;", true)
  | 2 => ("Marginnote$Site", "journal", "[I", true)
  | 3 => ("Marginnote$Site", "known", "[I", true)
  | 4 => ("Marginnote$Site", "paper", "LMarginnote$Paper;", true)
  | 5 => ("Marginnote$Site", "fresh", "Z", false)
  | 6 => ("Marginnote$Site", "proposing", "Z", false)
  | 7 => ("Marginnote$Site", "clock", "I", false)
  | 8 => ("Marginnote$Site", "cursor", "I", false)
  | _ => ("Marginnote$Site", "tail", "I", false)
def tyX4 : Nat → FieldType := fun k => match k with
  | 0 => .int
  | 1 => .object "Marginnote$ActSet"
  | 2 => .array .int
  | 3 => .array .int
  | 4 => .object "Marginnote$Paper"
  | 5 => .boolean
  | 6 => .boolean
  | 7 => .int
  | 8 => .int
  | _ => .int
theorem nmX4 : ∀ a, a < 10 → ∀ b, b < 10 → a ≠ b → (TX4 a).2.1 ≠ (TX4 b).2.1 := by decide +kernel
theorem tyX4_ok : ∀ k, k < 10 → parseFieldDescriptor (TX4 k).2.2.1 = some (tyX4 k) := by decide +kernel
abbrev RX5 : String := "Marginnote"
def TX5 : u_T := fun k => match k with
  | 0 => ("Marginnote", "book", "LMarginnote$Book;", true)
  | 1 => ("Marginnote", "sites", "[LMarginnote$Site;", true)
  | 2 => ("Marginnote", "messages", "[LMarginnote$Message;", true)
  | 3 => ("Marginnote", "versions", "[LMarginnote$ActSet;", true)
  | 4 => ("Marginnote", "scratch", "LMarginnote$Paper;", true)
  | 5 => ("Marginnote", "otherScratch", "LMarginnote$Paper;", true)
  | 6 => ("Marginnote", "scratchSet", "LMarginnote$ActSet;", true)
  | 7 => ("Marginnote", "picked", "[I", true)
  | 8 => ("Marginnote", "owners", "[I", true)
  | 9 => ("Marginnote", "messageCount", "I", false)
  | _ => ("Marginnote", "versionCount", "I", false)
def tyX5 : Nat → FieldType := fun k => match k with
  | 0 => .object "Marginnote$Book"
  | 1 => .array (.object "Marginnote$Site")
  | 2 => .array (.object "Marginnote$Message")
  | 3 => .array (.object "Marginnote$ActSet")
  | 4 => .object "Marginnote$Paper"
  | 5 => .object "Marginnote$Paper"
  | 6 => .object "Marginnote$ActSet"
  | 7 => .array .int
  | 8 => .array .int
  | 9 => .int
  | _ => .int
theorem nmX5 : ∀ a, a < 11 → ∀ b, b < 11 → a ≠ b → (TX5 a).2.1 ≠ (TX5 b).2.1 := by decide +kernel
theorem tyX5_ok : ∀ k, k < 11 → parseFieldDescriptor (TX5 k).2.2.1 = some (tyX5 k) := by decide +kernel
abbrev RL : String := "MarginnoteLaw"
abbrev cX0_init : ByteArray := prog_2_method_1_code
abbrev yX0_init : MethodName := ⟨"Marginnote$ActSet", "<init>", "()V"⟩
abbrev cX0_contains : ByteArray := prog_2_method_2_code
abbrev yX0_contains : MethodName := ⟨"Marginnote$ActSet", "contains", "(I)Z"⟩
abbrev cX0_add : ByteArray := prog_2_method_3_code
abbrev yX0_add : MethodName := ⟨"Marginnote$ActSet", "add", "(I)V"⟩
abbrev cX0_clear : ByteArray := prog_2_method_5_code
abbrev yX0_clear : MethodName := ⟨"Marginnote$ActSet", "clear", "()V"⟩
abbrev cX0_copyFrom : ByteArray := prog_2_method_6_code
abbrev yX0_copyFrom : MethodName := ⟨"Marginnote$ActSet", "copyFrom", "(LMarginnote$ActSet;)V"⟩
abbrev cX1_init : ByteArray := prog_3_method_1_code
abbrev yX1_init : MethodName := ⟨"Marginnote$Book", "<init>", "()V"⟩
abbrev cX1_enter : ByteArray := prog_3_method_2_code
abbrev yX1_enter : MethodName := ⟨"Marginnote$Book", "enter", "(IIIIIIZ)I"⟩
abbrev cX1_putInOrder : ByteArray := prog_3_method_3_code
abbrev yX1_putInOrder : MethodName := ⟨"Marginnote$Book", "putInOrder", "(I)V"⟩
abbrev cX1_comesBefore : ByteArray := prog_3_method_4_code
abbrev yX1_comesBefore : MethodName := ⟨"Marginnote$Book", "comesBefore", "(II)Z"⟩
abbrev cX1_inOrder : ByteArray := prog_3_method_5_code
abbrev yX1_inOrder : MethodName := ⟨"Marginnote$Book", "inOrder", "(I)I"⟩
abbrev cX1_siteOf : ByteArray := prog_3_method_6_code
abbrev yX1_siteOf : MethodName := ⟨"Marginnote$Book", "siteOf", "(I)I"⟩
abbrev cX1_countOf : ByteArray := prog_3_method_7_code
abbrev yX1_countOf : MethodName := ⟨"Marginnote$Book", "countOf", "(I)I"⟩
abbrev cX1_kindOf : ByteArray := prog_3_method_8_code
abbrev yX1_kindOf : MethodName := ⟨"Marginnote$Book", "kindOf", "(I)I"⟩
abbrev cX1_firstOf : ByteArray := prog_3_method_9_code
abbrev yX1_firstOf : MethodName := ⟨"Marginnote$Book", "firstOf", "(I)I"⟩
abbrev cX1_secondOf : ByteArray := prog_3_method_10_code
abbrev yX1_secondOf : MethodName := ⟨"Marginnote$Book", "secondOf", "(I)I"⟩
abbrev cX1_valueOf : ByteArray := prog_3_method_11_code
abbrev yX1_valueOf : MethodName := ⟨"Marginnote$Book", "valueOf", "(I)I"⟩
abbrev cX1_flagOf : ByteArray := prog_3_method_12_code
abbrev yX1_flagOf : MethodName := ⟨"Marginnote$Book", "flagOf", "(I)Z"⟩
abbrev cX1_makesElement : ByteArray := prog_3_method_13_code
abbrev yX1_makesElement : MethodName := ⟨"Marginnote$Book", "makesElement", "(I)Z"⟩
abbrev cX1_isUndoable : ByteArray := prog_3_method_14_code
abbrev yX1_isUndoable : MethodName := ⟨"Marginnote$Book", "isUndoable", "(I)Z"⟩
abbrev cX2_init : ByteArray := prog_4_method_1_code
abbrev yX2_init : MethodName := ⟨"Marginnote$Message", "<init>", "(LMarginnote$Site;I)V"⟩
abbrev cX3_init : ByteArray := prog_5_method_1_code
abbrev yX3_init : MethodName := ⟨"Marginnote$Paper", "<init>", "(LMarginnote$Book;)V"⟩
abbrev cX3_clear : ByteArray := prog_5_method_2_code
abbrev yX3_clear : MethodName := ⟨"Marginnote$Paper", "clear", "()V"⟩
abbrev cX3_doAll : ByteArray := prog_5_method_3_code
abbrev yX3_doAll : MethodName := ⟨"Marginnote$Paper", "doAll", "(LMarginnote$ActSet;)V"⟩
abbrev cX3_findUndone : ByteArray := prog_5_method_4_code
abbrev yX3_findUndone : MethodName := ⟨"Marginnote$Paper", "findUndone", "(LMarginnote$ActSet;)V"⟩
abbrev cX3_perform : ByteArray := prog_5_method_5_code
abbrev yX3_perform : MethodName := ⟨"Marginnote$Paper", "perform", "(I)V"⟩
abbrev cX3_putElement : ByteArray := prog_5_method_6_code
abbrev yX3_putElement : MethodName := ⟨"Marginnote$Paper", "putElement", "(I)V"⟩
abbrev cX3_removeElement : ByteArray := prog_5_method_7_code
abbrev yX3_removeElement : MethodName := ⟨"Marginnote$Paper", "removeElement", "(I)V"⟩
abbrev cX3_restoreElement : ByteArray := prog_5_method_8_code
abbrev yX3_restoreElement : MethodName := ⟨"Marginnote$Paper", "restoreElement", "(I)V"⟩
abbrev cX3_paint : ByteArray := prog_5_method_9_code
abbrev yX3_paint : MethodName := ⟨"Marginnote$Paper", "paint", "(IIZ)V"⟩
abbrev cX3_giveKind : ByteArray := prog_5_method_10_code
abbrev yX3_giveKind : MethodName := ⟨"Marginnote$Paper", "giveKind", "(I)V"⟩
abbrev cX3_putUnder : ByteArray := prog_5_method_11_code
abbrev yX3_putUnder : MethodName := ⟨"Marginnote$Paper", "putUnder", "(I)V"⟩
abbrev cX3_comesTo : ByteArray := prog_5_method_12_code
abbrev yX3_comesTo : MethodName := ⟨"Marginnote$Paper", "comesTo", "(II)Z"⟩
abbrev cX3_settle : ByteArray := prog_5_method_13_code
abbrev yX3_settle : MethodName := ⟨"Marginnote$Paper", "settle", "(I)V"⟩
abbrev cX3_giveLevel : ByteArray := prog_5_method_14_code
abbrev yX3_giveLevel : MethodName := ⟨"Marginnote$Paper", "giveLevel", "(I)V"⟩
abbrev cX3_isNumber : ByteArray := prog_5_method_15_code
abbrev yX3_isNumber : MethodName := ⟨"Marginnote$Paper", "isNumber", "(I)Z"⟩
abbrev cX3_wasUndone : ByteArray := prog_5_method_16_code
abbrev yX3_wasUndone : MethodName := ⟨"Marginnote$Paper", "wasUndone", "(I)Z"⟩
abbrev cX3_mayDecide : ByteArray := prog_5_method_17_code
abbrev yX3_mayDecide : MethodName := ⟨"Marginnote$Paper", "mayDecide", "(II)Z"⟩
abbrev cX3_elementOf : ByteArray := prog_5_method_18_code
abbrev yX3_elementOf : MethodName := ⟨"Marginnote$Paper", "elementOf", "(I)I"⟩
abbrev cX3_isOpen : ByteArray := prog_5_method_19_code
abbrev yX3_isOpen : MethodName := ⟨"Marginnote$Paper", "isOpen", "(I)Z"⟩
abbrev cX3_countOpen : ByteArray := prog_5_method_20_code
abbrev yX3_countOpen : MethodName := ⟨"Marginnote$Paper", "countOpen", "()I"⟩
abbrev cX3_proposalsFor : ByteArray := prog_5_method_21_code
abbrev yX3_proposalsFor : MethodName := ⟨"Marginnote$Paper", "proposalsFor", "(I)I"⟩
abbrev cX3_isSeen : ByteArray := prog_5_method_22_code
abbrev yX3_isSeen : MethodName := ⟨"Marginnote$Paper", "isSeen", "(I)Z"⟩
abbrev cX3_isShown : ByteArray := prog_5_method_23_code
abbrev yX3_isShown : MethodName := ⟨"Marginnote$Paper", "isShown", "(I)Z"⟩
abbrev cX3_isGrave : ByteArray := prog_5_method_24_code
abbrev yX3_isGrave : MethodName := ⟨"Marginnote$Paper", "isGrave", "(I)Z"⟩
abbrev cX3_isShownBreak : ByteArray := prog_5_method_25_code
abbrev yX3_isShownBreak : MethodName := ⟨"Marginnote$Paper", "isShownBreak", "(I)Z"⟩
abbrev cX3_bitsOf : ByteArray := prog_5_method_26_code
abbrev yX3_bitsOf : MethodName := ⟨"Marginnote$Paper", "bitsOf", "(I)I"⟩
abbrev cX3_hasBit : ByteArray := prog_5_method_27_code
abbrev yX3_hasBit : MethodName := ⟨"Marginnote$Paper", "hasBit", "(II)Z"⟩
abbrev cX3_inRow : ByteArray := prog_5_method_28_code
abbrev yX3_inRow : MethodName := ⟨"Marginnote$Paper", "inRow", "(I)I"⟩
abbrev cX3_placeOf : ByteArray := prog_5_method_29_code
abbrev yX3_placeOf : MethodName := ⟨"Marginnote$Paper", "placeOf", "(I)I"⟩
abbrev cX3_seenAt : ByteArray := prog_5_method_30_code
abbrev yX3_seenAt : MethodName := ⟨"Marginnote$Paper", "seenAt", "(I)I"⟩
abbrev cX3_seenThrough : ByteArray := prog_5_method_31_code
abbrev yX3_seenThrough : MethodName := ⟨"Marginnote$Paper", "seenThrough", "(I)I"⟩
abbrev cX3_pickSeen : ByteArray := prog_5_method_32_code
abbrev yX3_pickSeen : MethodName := ⟨"Marginnote$Paper", "pickSeen", "(II[I)I"⟩
abbrev cX3_countSeen : ByteArray := prog_5_method_34_code
abbrev yX3_countSeen : MethodName := ⟨"Marginnote$Paper", "countSeen", "()I"⟩
abbrev cX3_countShown : ByteArray := prog_5_method_35_code
abbrev yX3_countShown : MethodName := ⟨"Marginnote$Paper", "countShown", "()I"⟩
abbrev cX3_countGraves : ByteArray := prog_5_method_36_code
abbrev yX3_countGraves : MethodName := ⟨"Marginnote$Paper", "countGraves", "()I"⟩
abbrev cX3_countSeenWith : ByteArray := prog_5_method_37_code
abbrev yX3_countSeenWith : MethodName := ⟨"Marginnote$Paper", "countSeenWith", "(I)I"⟩
abbrev cX3_isBlock : ByteArray := prog_5_method_38_code
abbrev yX3_isBlock : MethodName := ⟨"Marginnote$Paper", "isBlock", "(I)Z"⟩
abbrev cX3_blockOf : ByteArray := prog_5_method_39_code
abbrev yX3_blockOf : MethodName := ⟨"Marginnote$Paper", "blockOf", "(I)I"⟩
abbrev cX3_levelIn : ByteArray := prog_5_method_40_code
abbrev yX3_levelIn : MethodName := ⟨"Marginnote$Paper", "levelIn", "(II)I"⟩
abbrev cX3_countBlocks : ByteArray := prog_5_method_41_code
abbrev yX3_countBlocks : MethodName := ⟨"Marginnote$Paper", "countBlocks", "()I"⟩
abbrev cX3_shownBlock : ByteArray := prog_5_method_42_code
abbrev yX3_shownBlock : MethodName := ⟨"Marginnote$Paper", "shownBlock", "(I)I"⟩
abbrev cX3_kindOf : ByteArray := prog_5_method_43_code
abbrev yX3_kindOf : MethodName := ⟨"Marginnote$Paper", "kindOf", "(I)I"⟩
abbrev cX3_depthOf : ByteArray := prog_5_method_44_code
abbrev yX3_depthOf : MethodName := ⟨"Marginnote$Paper", "depthOf", "(I)I"⟩
abbrev cX4_init : ByteArray := prog_6_method_1_code
abbrev yX4_init : MethodName := ⟨"Marginnote$Site", "<init>", "(ILMarginnote$Book;)V"⟩
abbrev cX4_take : ByteArray := prog_6_method_2_code
abbrev yX4_take : MethodName := ⟨"Marginnote$Site", "take", "(II)V"⟩
abbrev cX4_learn : ByteArray := prog_6_method_4_code
abbrev yX4_learn : MethodName := ⟨"Marginnote$Site", "learn", "([I)V"⟩
abbrev cX4_knownOf : ByteArray := prog_6_method_5_code
abbrev yX4_knownOf : MethodName := ⟨"Marginnote$Site", "knownOf", "(I)I"⟩
abbrev cX4_countFirst : ByteArray := prog_6_method_8_code
abbrev yX4_countFirst : MethodName := ⟨"Marginnote$Site", "countFirst", "(I[I)V"⟩
abbrev cX5_init : ByteArray := prog_1_method_1_code
abbrev yX5_init : MethodName := ⟨"Marginnote", "<init>", "()V"⟩
abbrev cX5_type : ByteArray := prog_1_method_2_code
abbrev yX5_type : MethodName := ⟨"Marginnote", "type", "(IC)I"⟩
abbrev cX5_split : ByteArray := prog_1_method_3_code
abbrev yX5_split : MethodName := ⟨"Marginnote", "split", "(I)I"⟩
abbrev cX5_erase : ByteArray := prog_1_method_4_code
abbrev yX5_erase : MethodName := ⟨"Marginnote", "erase", "(I)I"⟩
abbrev cX5_moveTo : ByteArray := prog_1_method_5_code
abbrev yX5_moveTo : MethodName := ⟨"Marginnote", "moveTo", "(II)I"⟩
abbrev cX5_extend : ByteArray := prog_1_method_6_code
abbrev yX5_extend : MethodName := ⟨"Marginnote", "extend", "(II)I"⟩
abbrev cX5_mark : ByteArray := prog_1_method_7_code
abbrev yX5_mark : MethodName := ⟨"Marginnote", "mark", "(IIZ)I"⟩
abbrev cX5_comment : ByteArray := prog_1_method_8_code
abbrev yX5_comment : MethodName := ⟨"Marginnote", "comment", "(I)I"⟩
abbrev cX5_setKind : ByteArray := prog_1_method_9_code
abbrev yX5_setKind : MethodName := ⟨"Marginnote", "setKind", "(III)I"⟩
abbrev cX5_nest : ByteArray := prog_1_method_10_code
abbrev yX5_nest : MethodName := ⟨"Marginnote", "nest", "(III)I"⟩
abbrev cX5_propose : ByteArray := prog_1_method_11_code
abbrev yX5_propose : MethodName := ⟨"Marginnote", "propose", "(IZ)Z"⟩
abbrev cX5_decide : ByteArray := prog_1_method_12_code
abbrev yX5_decide : MethodName := ⟨"Marginnote", "decide", "(IIZ)I"⟩
abbrev cX5_allow : ByteArray := prog_1_method_13_code
abbrev yX5_allow : MethodName := ⟨"Marginnote", "allow", "(III)I"⟩
abbrev cX5_undo : ByteArray := prog_1_method_14_code
abbrev yX5_undo : MethodName := ⟨"Marginnote", "undo", "(I)I"⟩
abbrev cX5_redo : ByteArray := prog_1_method_15_code
abbrev yX5_redo : MethodName := ⟨"Marginnote", "redo", "(I)I"⟩
abbrev cX5_send : ByteArray := prog_1_method_16_code
abbrev yX5_send : MethodName := ⟨"Marginnote", "send", "(II)I"⟩
abbrev cX5_deliver : ByteArray := prog_1_method_17_code
abbrev yX5_deliver : MethodName := ⟨"Marginnote", "deliver", "(I)I"⟩
abbrev cX5_length : ByteArray := prog_1_method_23_code
abbrev yX5_length : MethodName := ⟨"Marginnote", "length", "(I)I"⟩
abbrev cX5_shown : ByteArray := prog_1_method_24_code
abbrev yX5_shown : MethodName := ⟨"Marginnote", "shown", "(I)I"⟩
abbrev cX5_element : ByteArray := prog_1_method_25_code
abbrev yX5_element : MethodName := ⟨"Marginnote", "element", "(II)I"⟩
abbrev cX5_elementAnew : ByteArray := prog_1_method_26_code
abbrev yX5_elementAnew : MethodName := ⟨"Marginnote", "elementAnew", "(II)I"⟩
abbrev cX5_letter : ByteArray := prog_1_method_27_code
abbrev yX5_letter : MethodName := ⟨"Marginnote", "letter", "(II)C"⟩
abbrev cX5_proposed : ByteArray := prog_1_method_28_code
abbrev yX5_proposed : MethodName := ⟨"Marginnote", "proposed", "(II)I"⟩
abbrev cX5_open : ByteArray := prog_1_method_29_code
abbrev yX5_open : MethodName := ⟨"Marginnote", "open", "(I)I"⟩
abbrev cX5_isMarked : ByteArray := prog_1_method_30_code
abbrev yX5_isMarked : MethodName := ⟨"Marginnote", "isMarked", "(III)Z"⟩
abbrev cX5_covered : ByteArray := prog_1_method_31_code
abbrev yX5_covered : MethodName := ⟨"Marginnote", "covered", "(II)I"⟩
abbrev cX5_blocks : ByteArray := prog_1_method_32_code
abbrev yX5_blocks : MethodName := ⟨"Marginnote", "blocks", "(I)I"⟩
abbrev cX5_kind : ByteArray := prog_1_method_33_code
abbrev yX5_kind : MethodName := ⟨"Marginnote", "kind", "(II)I"⟩
abbrev cX5_depth : ByteArray := prog_1_method_34_code
abbrev yX5_depth : MethodName := ⟨"Marginnote", "depth", "(II)I"⟩
abbrev cX5_level : ByteArray := prog_1_method_35_code
abbrev yX5_level : MethodName := ⟨"Marginnote", "level", "(II)I"⟩
abbrev cX5_cursor : ByteArray := prog_1_method_36_code
abbrev yX5_cursor : MethodName := ⟨"Marginnote", "cursor", "(I)I"⟩
abbrev cX5_tail : ByteArray := prog_1_method_37_code
abbrev yX5_tail : MethodName := ⟨"Marginnote", "tail", "(I)I"⟩
abbrev cX5_graves : ByteArray := prog_1_method_38_code
abbrev yX5_graves : MethodName := ⟨"Marginnote", "graves", "(I)I"⟩
abbrev cX5_buried : ByteArray := prog_1_method_39_code
abbrev yX5_buried : MethodName := ⟨"Marginnote", "buried", "(I)I"⟩
abbrev cX5_acts : ByteArray := prog_1_method_40_code
abbrev yX5_acts : MethodName := ⟨"Marginnote", "acts", "()I"⟩
abbrev cX5_has : ByteArray := prog_1_method_41_code
abbrev yX5_has : MethodName := ⟨"Marginnote", "has", "(I)I"⟩
abbrev cX5_act : ByteArray := prog_1_method_43_code
abbrev yX5_act : MethodName := ⟨"Marginnote", "act", "(I)I"⟩
abbrev cX5_isUndone : ByteArray := prog_1_method_44_code
abbrev yX5_isUndone : MethodName := ⟨"Marginnote", "isUndone", "(II)Z"⟩
abbrev cX5_siteAt : ByteArray := prog_1_method_45_code
abbrev yX5_siteAt : MethodName := ⟨"Marginnote", "siteAt", "(I)LMarginnote$Site;"⟩
abbrev cX5_messageAt : ByteArray := prog_1_method_46_code
abbrev yX5_messageAt : MethodName := ⟨"Marginnote", "messageAt", "(I)LMarginnote$Message;"⟩
abbrev cX5_elementAt : ByteArray := prog_1_method_48_code
abbrev yX5_elementAt : MethodName := ⟨"Marginnote", "elementAt", "(LMarginnote$Paper;I)I"⟩
abbrev cX5_standAt : ByteArray := prog_1_method_49_code
abbrev yX5_standAt : MethodName := ⟨"Marginnote", "standAt", "(LMarginnote$Paper;I)I"⟩
abbrev cX5_blockAt : ByteArray := prog_1_method_50_code
abbrev yX5_blockAt : MethodName := ⟨"Marginnote", "blockAt", "(LMarginnote$Paper;I)I"⟩
abbrev cX5_checkHeld : ByteArray := prog_1_method_51_code
abbrev yX5_checkHeld : MethodName := ⟨"Marginnote", "checkHeld", "(LMarginnote$Site;I)V"⟩
abbrev cX5_checkMark : ByteArray := prog_1_method_52_code
abbrev yX5_checkMark : MethodName := ⟨"Marginnote", "checkMark", "(I)V"⟩
abbrev cX5_checkRoomFor : ByteArray := prog_1_method_53_code
abbrev yX5_checkRoomFor : MethodName := ⟨"Marginnote", "checkRoomFor", "(I)V"⟩
abbrev cX5_checkMayWriteIn : ByteArray := prog_1_method_54_code
abbrev yX5_checkMayWriteIn : MethodName := ⟨"Marginnote", "checkMayWriteIn", "(LMarginnote$Paper;LMarginnote$Site;I)V"⟩
abbrev cX5_commentBit : ByteArray := prog_1_method_55_code
abbrev yX5_commentBit : MethodName := ⟨"Marginnote", "commentBit", "(I)I"⟩
abbrev cX5_paperOf : ByteArray := prog_1_method_56_code
abbrev yX5_paperOf : MethodName := ⟨"Marginnote", "paperOf", "(LMarginnote$Site;)LMarginnote$Paper;"⟩
abbrev cX5_writeBehindCursor : ByteArray := prog_1_method_57_code
abbrev yX5_writeBehindCursor : MethodName := ⟨"Marginnote", "writeBehindCursor", "(LMarginnote$Site;LMarginnote$Paper;IC)I"⟩
abbrev cX5_writeOnSelection : ByteArray := prog_1_method_58_code
abbrev yX5_writeOnSelection : MethodName := ⟨"Marginnote", "writeOnSelection", "(LMarginnote$Site;LMarginnote$Paper;IIZ)I"⟩
abbrev cX5_make : ByteArray := prog_1_method_59_code
abbrev yX5_make : MethodName := ⟨"Marginnote", "make", "(LMarginnote$Site;IIIIZ)I"⟩
abbrev cX5_lastNotUndone : ByteArray := prog_1_method_60_code
abbrev yX5_lastNotUndone : MethodName := ⟨"Marginnote", "lastNotUndone", "(LMarginnote$Site;LMarginnote$Paper;)I"⟩
abbrev cX5_lastToRedo : ByteArray := prog_1_method_61_code
abbrev yX5_lastToRedo : MethodName := ⟨"Marginnote", "lastToRedo", "(LMarginnote$Site;LMarginnote$Paper;)I"⟩
abbrev cX5_madeAndHas : ByteArray := prog_1_method_62_code
abbrev yX5_madeAndHas : MethodName := ⟨"Marginnote", "madeAndHas", "(LMarginnote$Site;I)Z"⟩
abbrev cX5_collectHadByAll : ByteArray := prog_1_method_63_code
abbrev yX5_collectHadByAll : MethodName := ⟨"Marginnote", "collectHadByAll", "(LMarginnote$Site;)V"⟩
abbrev cL_cell : ByteArray := method_2_code
abbrev yL_cell : MethodName := ⟨"MarginnoteLaw", "cell", "([II)I"⟩
abbrev cL_low : ByteArray := method_3_code
abbrev yL_low : MethodName := ⟨"MarginnoteLaw", "low", "(II)I"⟩
abbrev cL_areAlike : ByteArray := method_4_code
abbrev yL_areAlike : MethodName := ⟨"MarginnoteLaw", "areAlike", "(LMarginnote;II)Z"⟩
abbrev cL_isSite : ByteArray := method_5_code
abbrev yL_isSite : MethodName := ⟨"MarginnoteLaw", "isSite", "(LMarginnote;II)Z"⟩
abbrev cL_law : ByteArray := code
abbrev yL_law : MethodName := ⟨"MarginnoteLaw", "law", "([I)Z"⟩
abbrev vwCl : List vw_C := [(RX0, TX0, 2), (RX1, TX1, 10), (RX2, TX2, 3), (RX3, TX3, 12), (RX4, TX4, 10), (RX5, TX5, 11)]
/-- all words of the tables that hold at every call -/
def GW : List Cond := lw_tbl.filter goodWord
theorem GW_p {w : Cond} (h : w ∈ k2_sels lw_privs) (g : goodWord w = true) : w ∈ GW := List.mem_filter.mpr ⟨List.mem_append_left _ h, g⟩
theorem GW_s {q : MethodName × Nat} (h : q ∈ lw_privs) (g : goodWord (Cond.selects q.1.cls q.1 q.1) = true) : Cond.selects q.1.cls q.1 q.1 ∈ GW := GW_p (List.mem_map.mpr ⟨q, h, rfl⟩) g
theorem GW_1 {w : Cond} (i : Nat) (h : w ∈ tables_1_1) (g : goodWord w = true) : w ∈ GW := List.mem_filter.mpr ⟨List.mem_append_right _ (show w ∈ tables_1 from (List.mem_append_left _ h)), g⟩
theorem GW_2 {w : Cond} (i : Nat) (h : w ∈ tables_1_2) (g : goodWord w = true) : w ∈ GW := List.mem_filter.mpr ⟨List.mem_append_right _ (show w ∈ tables_1 from (List.mem_append_right _ (List.mem_append_left _ h))), g⟩
theorem GW_3 {w : Cond} (i : Nat) (h : w ∈ tables_1_3) (g : goodWord w = true) : w ∈ GW := List.mem_filter.mpr ⟨List.mem_append_right _ (show w ∈ tables_1 from (List.mem_append_right _ (List.mem_append_right _ (List.mem_append_left _ h)))), g⟩
theorem GW_4 {w : Cond} (i : Nat) (h : w ∈ tables_1_4) (g : goodWord w = true) : w ∈ GW := List.mem_filter.mpr ⟨List.mem_append_right _ (show w ∈ tables_1 from (List.mem_append_right _ (List.mem_append_right _ (List.mem_append_right _ h)))), g⟩
theorem mw0 : (Jvm.Cond.initialized "MarginnoteLaw") ∈ GW := GW_1 0 (List.mem_of_getElem? (i := 0) rfl) rfl
theorem mw1 : (Jvm.Cond.initialized "Marginnote") ∈ GW := GW_1 0 (List.mem_of_getElem? (i := 1) rfl) rfl
theorem mw2 : (Jvm.Cond.initialized "Marginnote$Book") ∈ GW := GW_1 0 (List.mem_of_getElem? (i := 2) rfl) rfl
theorem mw3 : (Jvm.Cond.initialized "Marginnote$Site") ∈ GW := GW_1 0 (List.mem_of_getElem? (i := 3) rfl) rfl
theorem mw4 : (Jvm.Cond.initialized "Marginnote$ActSet") ∈ GW := GW_1 0 (List.mem_of_getElem? (i := 4) rfl) rfl
theorem mw5 : (Jvm.Cond.initialized "Marginnote$Paper") ∈ GW := GW_1 0 (List.mem_of_getElem? (i := 5) rfl) rfl
theorem mw6 : (Jvm.Cond.initialized "java/lang/Throwable") ∈ GW := GW_1 0 (List.mem_of_getElem? (i := 6) rfl) rfl
theorem mw7 : (Jvm.Cond.initialized "java/lang/Exception") ∈ GW := GW_1 0 (List.mem_of_getElem? (i := 7) rfl) rfl
theorem mw8 : (Jvm.Cond.initialized "java/lang/RuntimeException") ∈ GW := GW_1 0 (List.mem_of_getElem? (i := 8) rfl) rfl
theorem mw9 : (Jvm.Cond.initialized "java/lang/IndexOutOfBoundsException") ∈ GW := GW_1 0 (List.mem_of_getElem? (i := 9) rfl) rfl
theorem mw10 : (Jvm.Cond.initialized "java/lang/System") ∈ GW := GW_1 0 (List.mem_of_getElem? (i := 10) rfl) rfl
theorem mw11 : (Jvm.Cond.initialized "java/lang/IllegalArgumentException") ∈ GW := GW_1 0 (List.mem_of_getElem? (i := 11) rfl) rfl
theorem mw12 : (Jvm.Cond.initialized "java/lang/IllegalStateException") ∈ GW := GW_1 0 (List.mem_of_getElem? (i := 12) rfl) rfl
theorem mw13 : (Jvm.Cond.initialized "java/lang/Math") ∈ GW := GW_1 0 (List.mem_of_getElem? (i := 13) rfl) rfl
theorem mw14 : (Jvm.Cond.initialized "Marginnote$Message") ∈ GW := GW_1 0 (List.mem_of_getElem? (i := 14) rfl) rfl
theorem mw15 : (Jvm.Cond.classLink "MarginnoteLaw" (9 : Nat) "Marginnote") ∈ GW := GW_1 0 (List.mem_of_getElem? (i := 15) rfl) rfl
theorem mw16 : (Jvm.Cond.instantiable "Marginnote" (11 : Nat)) ∈ GW := GW_1 0 (List.mem_of_getElem? (i := 16) rfl) rfl
theorem mw17 : (Jvm.Cond.methodLink "MarginnoteLaw" (62 : Nat) ({ cls := "Marginnote", name := "<init>", desc := "()V" } : Jvm.MethodName)) ∈ GW := GW_1 0 (List.mem_of_getElem? (i := 17) rfl) rfl
theorem mw18 : (Jvm.Cond.instanceMethod ({ cls := "Marginnote", name := "<init>", desc := "()V" } : Jvm.MethodName)) ∈ GW := GW_1 0 (List.mem_of_getElem? (i := 18) rfl) rfl
theorem mw19 : (Jvm.Cond.code ({ cls := "Marginnote", name := "<init>", desc := "()V" } : Jvm.MethodName) prog_1_method_1_code (2 : Nat) (Option.none : Option Jvm.ClassFile.FieldType)) ∈ GW := GW_1 0 (List.mem_of_getElem? (i := 19) rfl) rfl
theorem mw20 : (Jvm.Cond.methodLink "Marginnote" (3 : Nat) ({ cls := "java/lang/Object", name := "<init>", desc := "()V" } : Jvm.MethodName)) ∈ GW := GW_1 0 (List.mem_of_getElem? (i := 20) rfl) rfl
theorem mw21 : (Jvm.Cond.instanceMethod ({ cls := "java/lang/Object", name := "<init>", desc := "()V" } : Jvm.MethodName)) ∈ GW := GW_1 0 (List.mem_of_getElem? (i := 21) rfl) rfl
theorem mw22 : (Jvm.Cond.code ({ cls := "java/lang/Object", name := "<init>", desc := "()V" } : Jvm.MethodName) object_method_1_code (1 : Nat) (Option.none : Option Jvm.ClassFile.FieldType)) ∈ GW := GW_1 0 (List.mem_of_getElem? (i := 22) rfl) rfl
theorem mw23 : (Jvm.Cond.classLink "Marginnote" (9 : Nat) "Marginnote$Book") ∈ GW := GW_1 0 (List.mem_of_getElem? (i := 23) rfl) rfl
theorem mw24 : (Jvm.Cond.instantiable "Marginnote$Book" (10 : Nat)) ∈ GW := GW_1 0 (List.mem_of_getElem? (i := 24) rfl) rfl
theorem mw26 : (Jvm.Cond.instanceMethod ({ cls := "Marginnote$Book", name := "<init>", desc := "()V" } : Jvm.MethodName)) ∈ GW := GW_1 0 (List.mem_of_getElem? (i := 26) rfl) rfl
theorem mw27 : (Jvm.Cond.code ({ cls := "Marginnote$Book", name := "<init>", desc := "()V" } : Jvm.MethodName) prog_3_method_1_code (1 : Nat) (Option.none : Option Jvm.ClassFile.FieldType)) ∈ GW := GW_1 0 (List.mem_of_getElem? (i := 27) rfl) rfl
theorem mw28 : (Jvm.Cond.methodLink "Marginnote$Book" (3 : Nat) ({ cls := "java/lang/Object", name := "<init>", desc := "()V" } : Jvm.MethodName)) ∈ GW := GW_1 0 (List.mem_of_getElem? (i := 28) rfl) rfl
theorem mw29 : (Jvm.Cond.fieldLink "Marginnote$Book" (9 : Nat) "Marginnote$Book" "writers" "[I") ∈ GW := GW_1 0 (List.mem_of_getElem? (i := 29) rfl) rfl
theorem mw30 : (Jvm.Cond.fieldLink "Marginnote$Book" (15 : Nat) "Marginnote$Book" "counts" "[I") ∈ GW := GW_1 0 (List.mem_of_getElem? (i := 30) rfl) rfl
theorem mw31 : (Jvm.Cond.fieldLink "Marginnote$Book" (18 : Nat) "Marginnote$Book" "kinds" "[I") ∈ GW := GW_1 0 (List.mem_of_getElem? (i := 31) rfl) rfl
theorem mw32 : (Jvm.Cond.fieldLink "Marginnote$Book" (21 : Nat) "Marginnote$Book" "firsts" "[I") ∈ GW := GW_1 0 (List.mem_of_getElem? (i := 32) rfl) rfl
theorem mw33 : (Jvm.Cond.fieldLink "Marginnote$Book" (24 : Nat) "Marginnote$Book" "seconds" "[I") ∈ GW := GW_1 0 (List.mem_of_getElem? (i := 33) rfl) rfl
theorem mw34 : (Jvm.Cond.fieldLink "Marginnote$Book" (27 : Nat) "Marginnote$Book" "values" "[I") ∈ GW := GW_1 0 (List.mem_of_getElem? (i := 34) rfl) rfl
theorem mw35 : (Jvm.Cond.fieldLink "Marginnote$Book" (30 : Nat) "Marginnote$Book" "flags" "[Z") ∈ GW := GW_1 0 (List.mem_of_getElem? (i := 35) rfl) rfl
theorem mw36 : (Jvm.Cond.fieldLink "Marginnote$Book" (34 : Nat) "Marginnote$Book" "order" "[I") ∈ GW := GW_1 0 (List.mem_of_getElem? (i := 36) rfl) rfl
theorem mw37 : (Jvm.Cond.fieldLink "Marginnote$Book" (37 : Nat) "Marginnote$Book" "made" "I") ∈ GW := GW_1 0 (List.mem_of_getElem? (i := 37) rfl) rfl
theorem mw40 : (Jvm.Cond.fieldLink "Marginnote$Book" (41 : Nat) "Marginnote$Book" "comments" "I") ∈ GW := GW_1 0 (List.mem_of_getElem? (i := 40) rfl) rfl
theorem mw42 : (Jvm.Cond.laysFinal "Marginnote$Book" "Marginnote$Book" "writers" "[I") ∈ GW := GW_1 0 (List.mem_of_getElem? (i := 42) rfl) rfl
theorem mw44 : (Jvm.Cond.laysFinal "Marginnote$Book" "Marginnote$Book" "counts" "[I") ∈ GW := GW_1 0 (List.mem_of_getElem? (i := 44) rfl) rfl
theorem mw46 : (Jvm.Cond.laysFinal "Marginnote$Book" "Marginnote$Book" "kinds" "[I") ∈ GW := GW_1 0 (List.mem_of_getElem? (i := 46) rfl) rfl
theorem mw48 : (Jvm.Cond.laysFinal "Marginnote$Book" "Marginnote$Book" "firsts" "[I") ∈ GW := GW_1 0 (List.mem_of_getElem? (i := 48) rfl) rfl
theorem mw50 : (Jvm.Cond.laysFinal "Marginnote$Book" "Marginnote$Book" "seconds" "[I") ∈ GW := GW_1 0 (List.mem_of_getElem? (i := 50) rfl) rfl
theorem mw52 : (Jvm.Cond.laysFinal "Marginnote$Book" "Marginnote$Book" "values" "[I") ∈ GW := GW_1 0 (List.mem_of_getElem? (i := 52) rfl) rfl
theorem mw54 : (Jvm.Cond.laysFinal "Marginnote$Book" "Marginnote$Book" "flags" "[Z") ∈ GW := GW_1 0 (List.mem_of_getElem? (i := 54) rfl) rfl
theorem mw56 : (Jvm.Cond.laysFinal "Marginnote$Book" "Marginnote$Book" "order" "[I") ∈ GW := GW_1 0 (List.mem_of_getElem? (i := 56) rfl) rfl
theorem mw58 : (Jvm.Cond.lays "Marginnote$Book" "Marginnote$Book" "made" "I") ∈ GW := GW_1 0 (List.mem_of_getElem? (i := 58) rfl) rfl
theorem mw60 : (Jvm.Cond.lays "Marginnote$Book" "Marginnote$Book" "comments" "I") ∈ GW := GW_1 0 (List.mem_of_getElem? (i := 60) rfl) rfl
theorem mw63 : (Jvm.Cond.arrayClass Jvm.ClassFile.FieldType.int) ∈ GW := GW_1 0 (List.mem_of_getElem? (i := 63) rfl) rfl
theorem mw64 : (Jvm.Cond.arrayClass Jvm.ClassFile.FieldType.boolean) ∈ GW := GW_1 0 (List.mem_of_getElem? (i := 64) rfl) rfl
theorem mw65 : (Jvm.Cond.classLink "Marginnote" (16 : Nat) "Marginnote$Site") ∈ GW := GW_1 0 (List.mem_of_getElem? (i := 65) rfl) rfl
theorem mw67 : (Jvm.Cond.instantiable "Marginnote$Site" (10 : Nat)) ∈ GW := GW_1 0 (List.mem_of_getElem? (i := 67) rfl) rfl
theorem mw68 : (Jvm.Cond.methodLink "Marginnote" (22 : Nat) ({ cls := "Marginnote$Site", name := "<init>", desc := "(ILMarginnote$Book;)V" } : Jvm.MethodName)) ∈ GW := GW_1 0 (List.mem_of_getElem? (i := 68) rfl) rfl
theorem mw69 : (Jvm.Cond.instanceMethod ({ cls := "Marginnote$Site", name := "<init>", desc := "(ILMarginnote$Book;)V" } : Jvm.MethodName)) ∈ GW := GW_1 0 (List.mem_of_getElem? (i := 69) rfl) rfl
theorem mw70 : (Jvm.Cond.code ({ cls := "Marginnote$Site", name := "<init>", desc := "(ILMarginnote$Book;)V" } : Jvm.MethodName) prog_6_method_1_code (3 : Nat) (Option.none : Option Jvm.ClassFile.FieldType)) ∈ GW := GW_1 0 (List.mem_of_getElem? (i := 70) rfl) rfl
theorem mw71 : (Jvm.Cond.methodLink "Marginnote$Site" (3 : Nat) ({ cls := "java/lang/Object", name := "<init>", desc := "()V" } : Jvm.MethodName)) ∈ GW := GW_1 0 (List.mem_of_getElem? (i := 71) rfl) rfl
theorem mw72 : (Jvm.Cond.classLink "Marginnote$Site" (9 : Nat) "Marginnote$ActSet") ∈ GW := GW_1 0 (List.mem_of_getElem? (i := 72) rfl) rfl
theorem mw73 : (Jvm.Cond.instantiable "Marginnote$ActSet" (2 : Nat)) ∈ GW := GW_1 0 (List.mem_of_getElem? (i := 73) rfl) rfl
theorem mw75 : (Jvm.Cond.instanceMethod ({ cls := "Marginnote$ActSet", name := "<init>", desc := "()V" } : Jvm.MethodName)) ∈ GW := GW_1 0 (List.mem_of_getElem? (i := 75) rfl) rfl
theorem mw76 : (Jvm.Cond.code ({ cls := "Marginnote$ActSet", name := "<init>", desc := "()V" } : Jvm.MethodName) prog_2_method_1_code (1 : Nat) (Option.none : Option Jvm.ClassFile.FieldType)) ∈ GW := GW_1 0 (List.mem_of_getElem? (i := 76) rfl) rfl
theorem mw77 : (Jvm.Cond.methodLink "Marginnote$ActSet" (3 : Nat) ({ cls := "java/lang/Object", name := "<init>", desc := "()V" } : Jvm.MethodName)) ∈ GW := GW_1 0 (List.mem_of_getElem? (i := 77) rfl) rfl
theorem mw78 : (Jvm.Cond.fieldLink "Marginnote$ActSet" (9 : Nat) "Marginnote$ActSet" "members" "[Z") ∈ GW := GW_1 0 (List.mem_of_getElem? (i := 78) rfl) rfl
theorem mw80 : (Jvm.Cond.fieldLink "Marginnote$ActSet" (15 : Nat) "Marginnote$ActSet" "size" "I") ∈ GW := GW_1 0 (List.mem_of_getElem? (i := 80) rfl) rfl
theorem mw82 : (Jvm.Cond.laysFinal "Marginnote$ActSet" "Marginnote$ActSet" "members" "[Z") ∈ GW := GW_1 0 (List.mem_of_getElem? (i := 82) rfl) rfl
theorem mw84 : (Jvm.Cond.lays "Marginnote$ActSet" "Marginnote$ActSet" "size" "I") ∈ GW := GW_1 0 (List.mem_of_getElem? (i := 84) rfl) rfl
theorem mw87 : (Jvm.Cond.classLink "Marginnote$Site" (39 : Nat) "Marginnote$Paper") ∈ GW := GW_1 0 (List.mem_of_getElem? (i := 87) rfl) rfl
theorem mw88 : (Jvm.Cond.instantiable "Marginnote$Paper" (12 : Nat)) ∈ GW := GW_1 0 (List.mem_of_getElem? (i := 88) rfl) rfl
theorem mw89 : (Jvm.Cond.methodLink "Marginnote$Site" (41 : Nat) ({ cls := "Marginnote$Paper", name := "<init>", desc := "(LMarginnote$Book;)V" } : Jvm.MethodName)) ∈ GW := GW_1 0 (List.mem_of_getElem? (i := 89) rfl) rfl
theorem mw90 : (Jvm.Cond.instanceMethod ({ cls := "Marginnote$Paper", name := "<init>", desc := "(LMarginnote$Book;)V" } : Jvm.MethodName)) ∈ GW := GW_1 0 (List.mem_of_getElem? (i := 90) rfl) rfl
theorem mw91 : (Jvm.Cond.code ({ cls := "Marginnote$Paper", name := "<init>", desc := "(LMarginnote$Book;)V" } : Jvm.MethodName) prog_5_method_1_code (3 : Nat) (Option.none : Option Jvm.ClassFile.FieldType)) ∈ GW := GW_1 0 (List.mem_of_getElem? (i := 91) rfl) rfl
theorem mw92 : (Jvm.Cond.methodLink "Marginnote$Paper" (3 : Nat) ({ cls := "java/lang/Object", name := "<init>", desc := "()V" } : Jvm.MethodName)) ∈ GW := GW_1 0 (List.mem_of_getElem? (i := 92) rfl) rfl
theorem mw93 : (Jvm.Cond.classLink "Marginnote$Paper" (40 : Nat) "[[I") ∈ GW := GW_1 0 (List.mem_of_getElem? (i := 93) rfl) rfl
theorem mw95 : (Jvm.Cond.fieldLink "Marginnote$Paper" (45 : Nat) "Marginnote$Paper" "book" "LMarginnote$Book;") ∈ GW := GW_1 0 (List.mem_of_getElem? (i := 95) rfl) rfl
theorem mw96 : (Jvm.Cond.fieldLink "Marginnote$Paper" (9 : Nat) "Marginnote$Paper" "row" "[I") ∈ GW := GW_1 0 (List.mem_of_getElem? (i := 96) rfl) rfl
theorem mw97 : (Jvm.Cond.fieldLink "Marginnote$Paper" (49 : Nat) "Marginnote$Paper" "rowSize" "I") ∈ GW := GW_1 0 (List.mem_of_getElem? (i := 97) rfl) rfl
theorem mw98 : (Jvm.Cond.fieldLink "Marginnote$Paper" (15 : Nat) "Marginnote$Paper" "states" "[I") ∈ GW := GW_1 0 (List.mem_of_getElem? (i := 98) rfl) rfl
theorem mw99 : (Jvm.Cond.fieldLink "Marginnote$Paper" (18 : Nat) "Marginnote$Paper" "breaks" "[Z") ∈ GW := GW_1 0 (List.mem_of_getElem? (i := 99) rfl) rfl
theorem mw100 : (Jvm.Cond.fieldLink "Marginnote$Paper" (22 : Nat) "Marginnote$Paper" "removed" "[Z") ∈ GW := GW_1 0 (List.mem_of_getElem? (i := 100) rfl) rfl
theorem mw101 : (Jvm.Cond.fieldLink "Marginnote$Paper" (25 : Nat) "Marginnote$Paper" "bits" "[I") ∈ GW := GW_1 0 (List.mem_of_getElem? (i := 101) rfl) rfl
theorem mw102 : (Jvm.Cond.fieldLink "Marginnote$Paper" (28 : Nat) "Marginnote$Paper" "asked" "[Z") ∈ GW := GW_1 0 (List.mem_of_getElem? (i := 102) rfl) rfl
theorem mw103 : (Jvm.Cond.fieldLink "Marginnote$Paper" (31 : Nat) "Marginnote$Paper" "undone" "[Z") ∈ GW := GW_1 0 (List.mem_of_getElem? (i := 103) rfl) rfl
theorem mw104 : (Jvm.Cond.fieldLink "Marginnote$Paper" (34 : Nat) "Marginnote$Paper" "kinds" "[I") ∈ GW := GW_1 0 (List.mem_of_getElem? (i := 104) rfl) rfl
theorem mw105 : (Jvm.Cond.fieldLink "Marginnote$Paper" (37 : Nat) "Marginnote$Paper" "aboves" "[I") ∈ GW := GW_1 0 (List.mem_of_getElem? (i := 105) rfl) rfl
theorem mw106 : (Jvm.Cond.fieldLink "Marginnote$Paper" (42 : Nat) "Marginnote$Paper" "levels" "[[I") ∈ GW := GW_1 0 (List.mem_of_getElem? (i := 106) rfl) rfl
theorem mw107 : (Jvm.Cond.laysFinal "Marginnote$Paper" "Marginnote$Paper" "book" "LMarginnote$Book;") ∈ GW := GW_1 0 (List.mem_of_getElem? (i := 107) rfl) rfl
theorem mw109 : (Jvm.Cond.laysFinal "Marginnote$Paper" "Marginnote$Paper" "row" "[I") ∈ GW := GW_1 0 (List.mem_of_getElem? (i := 109) rfl) rfl
theorem mw111 : (Jvm.Cond.lays "Marginnote$Paper" "Marginnote$Paper" "rowSize" "I") ∈ GW := GW_1 0 (List.mem_of_getElem? (i := 111) rfl) rfl
theorem mw113 : (Jvm.Cond.laysFinal "Marginnote$Paper" "Marginnote$Paper" "states" "[I") ∈ GW := GW_1 0 (List.mem_of_getElem? (i := 113) rfl) rfl
theorem mw115 : (Jvm.Cond.laysFinal "Marginnote$Paper" "Marginnote$Paper" "breaks" "[Z") ∈ GW := GW_1 0 (List.mem_of_getElem? (i := 115) rfl) rfl
theorem mw117 : (Jvm.Cond.laysFinal "Marginnote$Paper" "Marginnote$Paper" "removed" "[Z") ∈ GW := GW_1 0 (List.mem_of_getElem? (i := 117) rfl) rfl
theorem mw119 : (Jvm.Cond.laysFinal "Marginnote$Paper" "Marginnote$Paper" "bits" "[I") ∈ GW := GW_1 0 (List.mem_of_getElem? (i := 119) rfl) rfl
theorem mw121 : (Jvm.Cond.laysFinal "Marginnote$Paper" "Marginnote$Paper" "asked" "[Z") ∈ GW := GW_1 0 (List.mem_of_getElem? (i := 121) rfl) rfl
theorem mw123 : (Jvm.Cond.laysFinal "Marginnote$Paper" "Marginnote$Paper" "undone" "[Z") ∈ GW := GW_1 0 (List.mem_of_getElem? (i := 123) rfl) rfl
theorem mw125 : (Jvm.Cond.laysFinal "Marginnote$Paper" "Marginnote$Paper" "kinds" "[I") ∈ GW := GW_1 0 (List.mem_of_getElem? (i := 125) rfl) rfl
theorem mw127 : (Jvm.Cond.laysFinal "Marginnote$Paper" "Marginnote$Paper" "aboves" "[I") ∈ GW := GW_1 0 (List.mem_of_getElem? (i := 127) rfl) rfl
theorem mw129 : (Jvm.Cond.laysFinal "Marginnote$Paper" "Marginnote$Paper" "levels" "[[I") ∈ GW := GW_1 0 (List.mem_of_getElem? (i := 129) rfl) rfl
theorem mw132 : (Jvm.Cond.fieldLink "Marginnote$Site" (36 : Nat) "Marginnote$Site" "number" "I") ∈ GW := GW_1 0 (List.mem_of_getElem? (i := 132) rfl) rfl
theorem mw134 : (Jvm.Cond.fieldLink "Marginnote$Site" (12 : Nat) "Marginnote$Site" "held" "LMarginnote$ActSet;") ∈ GW := GW_1 0 (List.mem_of_getElem? (i := 134) rfl) rfl
theorem mw137 : (Jvm.Cond.fieldLink "Marginnote$Site" (18 : Nat) "Marginnote$Site" "journal" "[I") ∈ GW := GW_1 0 (List.mem_of_getElem? (i := 137) rfl) rfl
theorem mw138 : (Jvm.Cond.fieldLink "Marginnote$Site" (22 : Nat) "Marginnote$Site" "known" "[I") ∈ GW := GW_1 0 (List.mem_of_getElem? (i := 138) rfl) rfl
theorem mw140 : (Jvm.Cond.fieldLink "Marginnote$Site" (44 : Nat) "Marginnote$Site" "paper" "LMarginnote$Paper;") ∈ GW := GW_1 0 (List.mem_of_getElem? (i := 140) rfl) rfl
theorem mw142 : (Jvm.Cond.fieldLink "Marginnote$Site" (25 : Nat) "Marginnote$Site" "fresh" "Z") ∈ GW := GW_1 0 (List.mem_of_getElem? (i := 142) rfl) rfl
theorem mw145 : (Jvm.Cond.fieldLink "Marginnote$Site" (59 : Nat) "Marginnote$Site" "clock" "I") ∈ GW := GW_1 0 (List.mem_of_getElem? (i := 145) rfl) rfl
theorem mw147 : (Jvm.Cond.fieldLink "Marginnote$Site" (29 : Nat) "Marginnote$Site" "cursor" "I") ∈ GW := GW_1 0 (List.mem_of_getElem? (i := 147) rfl) rfl
theorem mw149 : (Jvm.Cond.fieldLink "Marginnote$Site" (33 : Nat) "Marginnote$Site" "tail" "I") ∈ GW := GW_1 0 (List.mem_of_getElem? (i := 149) rfl) rfl
theorem mw151 : (Jvm.Cond.laysFinal "Marginnote$Site" "Marginnote$Site" "number" "I") ∈ GW := GW_1 0 (List.mem_of_getElem? (i := 151) rfl) rfl
theorem mw153 : (Jvm.Cond.laysFinal "Marginnote$Site" "Marginnote$Site" "held" "LMarginnote$ActSet;") ∈ GW := GW_1 0 (List.mem_of_getElem? (i := 153) rfl) rfl
theorem mw155 : (Jvm.Cond.laysFinal "Marginnote$Site" "Marginnote$Site" "journal" "[I") ∈ GW := GW_1 0 (List.mem_of_getElem? (i := 155) rfl) rfl
theorem mw157 : (Jvm.Cond.laysFinal "Marginnote$Site" "Marginnote$Site" "known" "[I") ∈ GW := GW_1 0 (List.mem_of_getElem? (i := 157) rfl) rfl
theorem mw159 : (Jvm.Cond.laysFinal "Marginnote$Site" "Marginnote$Site" "paper" "LMarginnote$Paper;") ∈ GW := GW_1 0 (List.mem_of_getElem? (i := 159) rfl) rfl
theorem mw161 : (Jvm.Cond.lays "Marginnote$Site" "Marginnote$Site" "fresh" "Z") ∈ GW := GW_1 0 (List.mem_of_getElem? (i := 161) rfl) rfl
theorem mw163 : (Jvm.Cond.lays "Marginnote$Site" "Marginnote$Site" "proposing" "Z") ∈ GW := GW_1 0 (List.mem_of_getElem? (i := 163) rfl) rfl
theorem mw165 : (Jvm.Cond.lays "Marginnote$Site" "Marginnote$Site" "clock" "I") ∈ GW := GW_1 0 (List.mem_of_getElem? (i := 165) rfl) rfl
theorem mw167 : (Jvm.Cond.lays "Marginnote$Site" "Marginnote$Site" "cursor" "I") ∈ GW := GW_1 0 (List.mem_of_getElem? (i := 167) rfl) rfl
theorem mw169 : (Jvm.Cond.lays "Marginnote$Site" "Marginnote$Site" "tail" "I") ∈ GW := GW_1 0 (List.mem_of_getElem? (i := 169) rfl) rfl
theorem mw172 : (Jvm.Cond.classLink "Marginnote" (25 : Nat) "Marginnote$Message") ∈ GW := GW_1 0 (List.mem_of_getElem? (i := 172) rfl) rfl
theorem mw174 : (Jvm.Cond.classLink "Marginnote" (31 : Nat) "Marginnote$ActSet") ∈ GW := GW_1 0 (List.mem_of_getElem? (i := 174) rfl) rfl
theorem mw176 : (Jvm.Cond.classLink "Marginnote" (37 : Nat) "Marginnote$Paper") ∈ GW := GW_1 0 (List.mem_of_getElem? (i := 176) rfl) rfl
theorem mw177 : (Jvm.Cond.methodLink "Marginnote" (39 : Nat) ({ cls := "Marginnote$Paper", name := "<init>", desc := "(LMarginnote$Book;)V" } : Jvm.MethodName)) ∈ GW := GW_1 0 (List.mem_of_getElem? (i := 177) rfl) rfl
theorem mw179 : (Jvm.Cond.fieldLink "Marginnote" (12 : Nat) "Marginnote" "book" "LMarginnote$Book;") ∈ GW := GW_1 0 (List.mem_of_getElem? (i := 179) rfl) rfl
theorem mw180 : (Jvm.Cond.fieldLink "Marginnote" (18 : Nat) "Marginnote" "sites" "[LMarginnote$Site;") ∈ GW := GW_1 0 (List.mem_of_getElem? (i := 180) rfl) rfl
theorem mw181 : (Jvm.Cond.fieldLink "Marginnote" (27 : Nat) "Marginnote" "messages" "[LMarginnote$Message;") ∈ GW := GW_1 0 (List.mem_of_getElem? (i := 181) rfl) rfl
theorem mw182 : (Jvm.Cond.fieldLink "Marginnote" (33 : Nat) "Marginnote" "versions" "[LMarginnote$ActSet;") ∈ GW := GW_1 0 (List.mem_of_getElem? (i := 182) rfl) rfl
theorem mw183 : (Jvm.Cond.fieldLink "Marginnote" (42 : Nat) "Marginnote" "scratch" "LMarginnote$Paper;") ∈ GW := GW_1 0 (List.mem_of_getElem? (i := 183) rfl) rfl
theorem mw184 : (Jvm.Cond.fieldLink "Marginnote" (46 : Nat) "Marginnote" "otherScratch" "LMarginnote$Paper;") ∈ GW := GW_1 0 (List.mem_of_getElem? (i := 184) rfl) rfl
theorem mw185 : (Jvm.Cond.fieldLink "Marginnote" (50 : Nat) "Marginnote" "scratchSet" "LMarginnote$ActSet;") ∈ GW := GW_1 0 (List.mem_of_getElem? (i := 185) rfl) rfl
theorem mw186 : (Jvm.Cond.fieldLink "Marginnote" (54 : Nat) "Marginnote" "picked" "[I") ∈ GW := GW_1 0 (List.mem_of_getElem? (i := 186) rfl) rfl
theorem mw187 : (Jvm.Cond.fieldLink "Marginnote" (58 : Nat) "Marginnote" "owners" "[I") ∈ GW := GW_1 0 (List.mem_of_getElem? (i := 187) rfl) rfl
theorem mw188 : (Jvm.Cond.fieldLink "Marginnote" (179 : Nat) "Marginnote" "messageCount" "I") ∈ GW := GW_1 0 (List.mem_of_getElem? (i := 188) rfl) rfl
theorem mw189 : (Jvm.Cond.laysFinal "Marginnote" "Marginnote" "book" "LMarginnote$Book;") ∈ GW := GW_1 0 (List.mem_of_getElem? (i := 189) rfl) rfl
theorem mw191 : (Jvm.Cond.laysFinal "Marginnote" "Marginnote" "sites" "[LMarginnote$Site;") ∈ GW := GW_1 0 (List.mem_of_getElem? (i := 191) rfl) rfl
theorem mw193 : (Jvm.Cond.laysFinal "Marginnote" "Marginnote" "messages" "[LMarginnote$Message;") ∈ GW := GW_1 0 (List.mem_of_getElem? (i := 193) rfl) rfl
theorem mw195 : (Jvm.Cond.laysFinal "Marginnote" "Marginnote" "versions" "[LMarginnote$ActSet;") ∈ GW := GW_1 0 (List.mem_of_getElem? (i := 195) rfl) rfl
theorem mw197 : (Jvm.Cond.laysFinal "Marginnote" "Marginnote" "scratch" "LMarginnote$Paper;") ∈ GW := GW_1 0 (List.mem_of_getElem? (i := 197) rfl) rfl
theorem mw199 : (Jvm.Cond.laysFinal "Marginnote" "Marginnote" "otherScratch" "LMarginnote$Paper;") ∈ GW := GW_1 0 (List.mem_of_getElem? (i := 199) rfl) rfl
theorem mw201 : (Jvm.Cond.laysFinal "Marginnote" "Marginnote" "scratchSet" "LMarginnote$ActSet;") ∈ GW := GW_1 0 (List.mem_of_getElem? (i := 201) rfl) rfl
theorem mw203 : (Jvm.Cond.laysFinal "Marginnote" "Marginnote" "picked" "[I") ∈ GW := GW_1 0 (List.mem_of_getElem? (i := 203) rfl) rfl
theorem mw205 : (Jvm.Cond.laysFinal "Marginnote" "Marginnote" "owners" "[I") ∈ GW := GW_1 0 (List.mem_of_getElem? (i := 205) rfl) rfl
theorem mw207 : (Jvm.Cond.lays "Marginnote" "Marginnote" "messageCount" "I") ∈ GW := GW_1 0 (List.mem_of_getElem? (i := 207) rfl) rfl
theorem mw209 : (Jvm.Cond.lays "Marginnote" "Marginnote" "versionCount" "I") ∈ GW := GW_1 0 (List.mem_of_getElem? (i := 209) rfl) rfl
theorem mw212 : (Jvm.Cond.methodLink "MarginnoteLaw" (72 : Nat) ({ cls := "Marginnote", name := "type", desc := "(IC)I" } : Jvm.MethodName)) ∈ GW := GW_1 0 (List.mem_of_getElem? (i := 212) rfl) rfl
theorem mw213 : (Jvm.Cond.instanceMethod ({ cls := "Marginnote", name := "type", desc := "(IC)I" } : Jvm.MethodName)) ∈ GW := GW_1 0 (List.mem_of_getElem? (i := 213) rfl) rfl
theorem mw214 : (Jvm.Cond.selects "Marginnote" ({ cls := "Marginnote", name := "type", desc := "(IC)I" } : Jvm.MethodName) ({ cls := "Marginnote", name := "type", desc := "(IC)I" } : Jvm.MethodName)) ∈ GW := GW_1 0 (List.mem_of_getElem? (i := 214) rfl) rfl
theorem mw215 : (Jvm.Cond.code ({ cls := "Marginnote", name := "type", desc := "(IC)I" } : Jvm.MethodName) prog_1_method_2_code (4 : Nat) (Option.some Jvm.ClassFile.FieldType.int)) ∈ GW := GW_1 0 (List.mem_of_getElem? (i := 215) rfl) rfl
theorem mw216 : (Jvm.Cond.methodLink "Marginnote" (61 : Nat) ({ cls := "Marginnote", name := "siteAt", desc := "(I)LMarginnote$Site;" } : Jvm.MethodName)) ∈ GW := GW_1 0 (List.mem_of_getElem? (i := 216) rfl) rfl
theorem mw218 : (Jvm.Cond.instanceMethod ({ cls := "Marginnote", name := "siteAt", desc := "(I)LMarginnote$Site;" } : Jvm.MethodName)) ∈ GW := GW_1 0 (List.mem_of_getElem? (i := 218) rfl) rfl
theorem mw219 : (Jvm.Cond.code ({ cls := "Marginnote", name := "siteAt", desc := "(I)LMarginnote$Site;" } : Jvm.MethodName) prog_1_method_45_code (2 : Nat) (Option.some (Jvm.ClassFile.FieldType.object "Marginnote$Site"))) ∈ GW := GW_1 0 (List.mem_of_getElem? (i := 219) rfl) rfl
theorem mw220 : (Jvm.Cond.classLink "Marginnote" (159 : Nat) "java/lang/IndexOutOfBoundsException") ∈ GW := GW_1 0 (List.mem_of_getElem? (i := 220) rfl) rfl
theorem mw221 : (Jvm.Cond.instantiable "java/lang/IndexOutOfBoundsException" (6 : Nat)) ∈ GW := GW_1 0 (List.mem_of_getElem? (i := 221) rfl) rfl
theorem mw229 : (Jvm.Cond.selects "java/lang/IndexOutOfBoundsException" ({ cls := "java/lang/Throwable", name := "fillInStackTrace", desc := "(I)Ljava/lang/Throwable;" } : Jvm.MethodName) ({ cls := "java/lang/Throwable", name := "fillInStackTrace", desc := "(I)Ljava/lang/Throwable;" } : Jvm.MethodName)) ∈ GW := GW_1 0 (List.mem_of_getElem? (i := 229) rfl) rfl
theorem mw230 : (Jvm.Cond.selects "java/lang/IndexOutOfBoundsException" ({ cls := "java/lang/Throwable", name := "fillInStackTrace", desc := "()Ljava/lang/Throwable;" } : Jvm.MethodName) ({ cls := "java/lang/Throwable", name := "fillInStackTrace", desc := "()Ljava/lang/Throwable;" } : Jvm.MethodName)) ∈ GW := GW_1 0 (List.mem_of_getElem? (i := 230) rfl) rfl
theorem mw231 : (Jvm.Cond.lays "java/lang/IndexOutOfBoundsException" "java/lang/Throwable" "cause" "Ljava/lang/Throwable;") ∈ GW := GW_1 0 (List.mem_of_getElem? (i := 231) rfl) rfl
theorem mw232 : (Jvm.Cond.lays "java/lang/Throwable" "java/lang/Throwable" "cause" "Ljava/lang/Throwable;") ∈ GW := GW_1 0 (List.mem_of_getElem? (i := 232) rfl) rfl
theorem mw233 : (Jvm.Cond.lays "java/lang/IndexOutOfBoundsException" "java/lang/Throwable" "stackTrace" "[Ljava/lang/StackTraceElement;") ∈ GW := GW_1 0 (List.mem_of_getElem? (i := 233) rfl) rfl
theorem mw234 : (Jvm.Cond.lays "java/lang/Throwable" "java/lang/Throwable" "stackTrace" "[Ljava/lang/StackTraceElement;") ∈ GW := GW_1 0 (List.mem_of_getElem? (i := 234) rfl) rfl
theorem mw235 : (Jvm.Cond.lays "java/lang/IndexOutOfBoundsException" "java/lang/Throwable" "suppressedExceptions" "Ljava/util/List;") ∈ GW := GW_1 0 (List.mem_of_getElem? (i := 235) rfl) rfl
theorem mw236 : (Jvm.Cond.lays "java/lang/Throwable" "java/lang/Throwable" "suppressedExceptions" "Ljava/util/List;") ∈ GW := GW_1 0 (List.mem_of_getElem? (i := 236) rfl) rfl
theorem mw237 : (Jvm.Cond.lays "java/lang/IndexOutOfBoundsException" "java/lang/Throwable" "detailMessage" "Ljava/lang/String;") ∈ GW := GW_1 0 (List.mem_of_getElem? (i := 237) rfl) rfl
theorem mw238 : (Jvm.Cond.lays "java/lang/Throwable" "java/lang/Throwable" "detailMessage" "Ljava/lang/String;") ∈ GW := GW_1 0 (List.mem_of_getElem? (i := 238) rfl) rfl
theorem mw239 : (Jvm.Cond.lays "java/lang/IndexOutOfBoundsException" "java/lang/Throwable" "backtrace" "Ljava/lang/Object;") ∈ GW := GW_1 0 (List.mem_of_getElem? (i := 239) rfl) rfl
theorem mw240 : (Jvm.Cond.lays "java/lang/Throwable" "java/lang/Throwable" "backtrace" "Ljava/lang/Object;") ∈ GW := GW_2 0 (List.mem_of_getElem? (i := 0) rfl) rfl
theorem mw274 : (Jvm.Cond.fieldLink "java/lang/Throwable" (198 : Nat) "java/lang/Throwable" "backtrace" "Ljava/lang/Object;") ∈ GW := GW_2 0 (List.mem_of_getElem? (i := 34) rfl) rfl
theorem mw243 : (Jvm.Cond.instanceMethod ({ cls := "java/lang/Throwable", name := "<init>", desc := "()V" } : Jvm.MethodName)) ∈ GW := GW_2 0 (List.mem_of_getElem? (i := 3) rfl) rfl
theorem mw244 : (Jvm.Cond.code ({ cls := "java/lang/Throwable", name := "<init>", desc := "()V" } : Jvm.MethodName) prog_18_method_1_code (1 : Nat) (Option.none : Option Jvm.ClassFile.FieldType)) ∈ GW := GW_2 0 (List.mem_of_getElem? (i := 4) rfl) rfl
theorem mw245 : (Jvm.Cond.methodLink "java/lang/Throwable" (1 : Nat) ({ cls := "java/lang/Object", name := "<init>", desc := "()V" } : Jvm.MethodName)) ∈ GW := GW_2 0 (List.mem_of_getElem? (i := 5) rfl) rfl
theorem mw246 : (Jvm.Cond.fieldLink "java/lang/Throwable" (13 : Nat) "java/lang/Throwable" "UNASSIGNED_STACK" "[Ljava/lang/StackTraceElement;") ∈ GW := GW_2 0 (List.mem_of_getElem? (i := 6) rfl) rfl
theorem mw248 : (Jvm.Cond.fieldLink "java/lang/Throwable" (20 : Nat) "java/lang/Throwable" "SUPPRESSED_SENTINEL" "Ljava/util/List;") ∈ GW := GW_2 0 (List.mem_of_getElem? (i := 8) rfl) rfl
theorem mw250 : (Jvm.Cond.methodLink "java/lang/Throwable" (27 : Nat) ({ cls := "java/lang/Throwable", name := "fillInStackTrace", desc := "()Ljava/lang/Throwable;" } : Jvm.MethodName)) ∈ GW := GW_2 0 (List.mem_of_getElem? (i := 10) rfl) rfl
theorem mw251 : (Jvm.Cond.instanceMethod ({ cls := "java/lang/Throwable", name := "fillInStackTrace", desc := "()Ljava/lang/Throwable;" } : Jvm.MethodName)) ∈ GW := GW_2 0 (List.mem_of_getElem? (i := 11) rfl) rfl
theorem mw253 : (Jvm.Cond.selects "java/lang/IllegalArgumentException" ({ cls := "java/lang/Throwable", name := "fillInStackTrace", desc := "()Ljava/lang/Throwable;" } : Jvm.MethodName) ({ cls := "java/lang/Throwable", name := "fillInStackTrace", desc := "()Ljava/lang/Throwable;" } : Jvm.MethodName)) ∈ GW := GW_2 0 (List.mem_of_getElem? (i := 13) rfl) rfl
theorem mw254 : (Jvm.Cond.selects "java/lang/IllegalStateException" ({ cls := "java/lang/Throwable", name := "fillInStackTrace", desc := "()Ljava/lang/Throwable;" } : Jvm.MethodName) ({ cls := "java/lang/Throwable", name := "fillInStackTrace", desc := "()Ljava/lang/Throwable;" } : Jvm.MethodName)) ∈ GW := GW_2 0 (List.mem_of_getElem? (i := 14) rfl) rfl
theorem mw256 : (Jvm.Cond.methodLink "java/lang/Throwable" (202 : Nat) ({ cls := "java/lang/Throwable", name := "fillInStackTrace", desc := "(I)Ljava/lang/Throwable;" } : Jvm.MethodName)) ∈ GW := GW_2 0 (List.mem_of_getElem? (i := 16) rfl) rfl
theorem mw258 : (Jvm.Cond.instanceMethod ({ cls := "java/lang/Throwable", name := "fillInStackTrace", desc := "(I)Ljava/lang/Throwable;" } : Jvm.MethodName)) ∈ GW := GW_2 0 (List.mem_of_getElem? (i := 18) rfl) rfl
theorem mw259 : (Jvm.Cond.instantiable "java/lang/Throwable" (6 : Nat)) ∈ GW := GW_2 0 (List.mem_of_getElem? (i := 19) rfl) rfl
theorem mw260 : (Jvm.Cond.native ({ cls := "java/lang/Throwable", name := "fillInStackTrace", desc := "(I)Ljava/lang/Throwable;" } : Jvm.MethodName)) ∈ GW := GW_2 0 (List.mem_of_getElem? (i := 20) rfl) rfl
theorem mw262 : (Jvm.Cond.methodLink "Marginnote" (163 : Nat) ({ cls := "java/lang/IndexOutOfBoundsException", name := "<init>", desc := "(Ljava/lang/String;)V" } : Jvm.MethodName)) ∈ GW := GW_2 0 (List.mem_of_getElem? (i := 22) rfl) rfl
theorem mw263 : (Jvm.Cond.instanceMethod ({ cls := "java/lang/IndexOutOfBoundsException", name := "<init>", desc := "(Ljava/lang/String;)V" } : Jvm.MethodName)) ∈ GW := GW_2 0 (List.mem_of_getElem? (i := 23) rfl) rfl
theorem mw264 : (Jvm.Cond.code ({ cls := "java/lang/IndexOutOfBoundsException", name := "<init>", desc := "(Ljava/lang/String;)V" } : Jvm.MethodName) prog_13_method_2_code (2 : Nat) (Option.none : Option Jvm.ClassFile.FieldType)) ∈ GW := GW_2 0 (List.mem_of_getElem? (i := 24) rfl) rfl
theorem mw265 : (Jvm.Cond.methodLink "java/lang/IndexOutOfBoundsException" (7 : Nat) ({ cls := "java/lang/RuntimeException", name := "<init>", desc := "(Ljava/lang/String;)V" } : Jvm.MethodName)) ∈ GW := GW_2 0 (List.mem_of_getElem? (i := 25) rfl) rfl
theorem mw266 : (Jvm.Cond.instanceMethod ({ cls := "java/lang/RuntimeException", name := "<init>", desc := "(Ljava/lang/String;)V" } : Jvm.MethodName)) ∈ GW := GW_2 0 (List.mem_of_getElem? (i := 26) rfl) rfl
theorem mw267 : (Jvm.Cond.code ({ cls := "java/lang/RuntimeException", name := "<init>", desc := "(Ljava/lang/String;)V" } : Jvm.MethodName) prog_15_method_2_code (2 : Nat) (Option.none : Option Jvm.ClassFile.FieldType)) ∈ GW := GW_2 0 (List.mem_of_getElem? (i := 27) rfl) rfl
theorem mw268 : (Jvm.Cond.methodLink "java/lang/RuntimeException" (7 : Nat) ({ cls := "java/lang/Exception", name := "<init>", desc := "(Ljava/lang/String;)V" } : Jvm.MethodName)) ∈ GW := GW_2 0 (List.mem_of_getElem? (i := 28) rfl) rfl
theorem mw269 : (Jvm.Cond.instanceMethod ({ cls := "java/lang/Exception", name := "<init>", desc := "(Ljava/lang/String;)V" } : Jvm.MethodName)) ∈ GW := GW_2 0 (List.mem_of_getElem? (i := 29) rfl) rfl
theorem mw270 : (Jvm.Cond.code ({ cls := "java/lang/Exception", name := "<init>", desc := "(Ljava/lang/String;)V" } : Jvm.MethodName) prog_10_method_2_code (2 : Nat) (Option.none : Option Jvm.ClassFile.FieldType)) ∈ GW := GW_2 0 (List.mem_of_getElem? (i := 30) rfl) rfl
theorem mw271 : (Jvm.Cond.methodLink "java/lang/Exception" (7 : Nat) ({ cls := "java/lang/Throwable", name := "<init>", desc := "(Ljava/lang/String;)V" } : Jvm.MethodName)) ∈ GW := GW_2 0 (List.mem_of_getElem? (i := 31) rfl) rfl
theorem mw272 : (Jvm.Cond.instanceMethod ({ cls := "java/lang/Throwable", name := "<init>", desc := "(Ljava/lang/String;)V" } : Jvm.MethodName)) ∈ GW := GW_2 0 (List.mem_of_getElem? (i := 32) rfl) rfl
theorem mw273 : (Jvm.Cond.code ({ cls := "java/lang/Throwable", name := "<init>", desc := "(Ljava/lang/String;)V" } : Jvm.MethodName) prog_18_method_2_code (2 : Nat) (Option.none : Option Jvm.ClassFile.FieldType)) ∈ GW := GW_2 0 (List.mem_of_getElem? (i := 33) rfl) rfl
theorem mw275 : (Jvm.Cond.fieldLink "java/lang/Throwable" (31 : Nat) "java/lang/Throwable" "detailMessage" "Ljava/lang/String;") ∈ GW := GW_2 0 (List.mem_of_getElem? (i := 35) rfl) rfl
theorem mw276 : (Jvm.Cond.fieldLink "java/lang/Throwable" (7 : Nat) "java/lang/Throwable" "cause" "Ljava/lang/Throwable;") ∈ GW := GW_2 0 (List.mem_of_getElem? (i := 36) rfl) rfl
theorem mw277 : (Jvm.Cond.fieldLink "java/lang/Throwable" (17 : Nat) "java/lang/Throwable" "stackTrace" "[Ljava/lang/StackTraceElement;") ∈ GW := GW_2 0 (List.mem_of_getElem? (i := 37) rfl) rfl
theorem mw278 : (Jvm.Cond.fieldLink "java/lang/Throwable" (24 : Nat) "java/lang/Throwable" "suppressedExceptions" "Ljava/util/List;") ∈ GW := GW_2 0 (List.mem_of_getElem? (i := 38) rfl) rfl
theorem mw283 : (Jvm.Cond.lays "java/lang/IndexOutOfBoundsException" "java/lang/Throwable" "depth" "I") ∈ GW := GW_2 0 (List.mem_of_getElem? (i := 43) rfl) rfl
theorem mw287 : (Jvm.Cond.arrayClass Jvm.ClassFile.FieldType.byte) ∈ GW := GW_2 0 (List.mem_of_getElem? (i := 47) rfl) rfl
theorem mw288 : (Jvm.Cond.classLink "Marginnote" (65 : Nat) "java/lang/IllegalArgumentException") ∈ GW := GW_2 0 (List.mem_of_getElem? (i := 48) rfl) rfl
theorem mw289 : (Jvm.Cond.instantiable "java/lang/IllegalArgumentException" (6 : Nat)) ∈ GW := GW_2 0 (List.mem_of_getElem? (i := 49) rfl) rfl
theorem mw291 : (Jvm.Cond.selects "java/lang/IllegalArgumentException" ({ cls := "java/lang/Throwable", name := "fillInStackTrace", desc := "(I)Ljava/lang/Throwable;" } : Jvm.MethodName) ({ cls := "java/lang/Throwable", name := "fillInStackTrace", desc := "(I)Ljava/lang/Throwable;" } : Jvm.MethodName)) ∈ GW := GW_2 0 (List.mem_of_getElem? (i := 51) rfl) rfl
theorem mw292 : (Jvm.Cond.lays "java/lang/IllegalArgumentException" "java/lang/Throwable" "cause" "Ljava/lang/Throwable;") ∈ GW := GW_2 0 (List.mem_of_getElem? (i := 52) rfl) rfl
theorem mw293 : (Jvm.Cond.lays "java/lang/IllegalArgumentException" "java/lang/Throwable" "stackTrace" "[Ljava/lang/StackTraceElement;") ∈ GW := GW_2 0 (List.mem_of_getElem? (i := 53) rfl) rfl
theorem mw294 : (Jvm.Cond.lays "java/lang/IllegalArgumentException" "java/lang/Throwable" "suppressedExceptions" "Ljava/util/List;") ∈ GW := GW_2 0 (List.mem_of_getElem? (i := 54) rfl) rfl
theorem mw295 : (Jvm.Cond.lays "java/lang/IllegalArgumentException" "java/lang/Throwable" "detailMessage" "Ljava/lang/String;") ∈ GW := GW_2 0 (List.mem_of_getElem? (i := 55) rfl) rfl
theorem mw296 : (Jvm.Cond.lays "java/lang/IllegalArgumentException" "java/lang/Throwable" "backtrace" "Ljava/lang/Object;") ∈ GW := GW_2 0 (List.mem_of_getElem? (i := 56) rfl) rfl
theorem mw298 : (Jvm.Cond.methodLink "Marginnote" (69 : Nat) ({ cls := "java/lang/IllegalArgumentException", name := "<init>", desc := "(Ljava/lang/String;)V" } : Jvm.MethodName)) ∈ GW := GW_2 0 (List.mem_of_getElem? (i := 58) rfl) rfl
theorem mw299 : (Jvm.Cond.instanceMethod ({ cls := "java/lang/IllegalArgumentException", name := "<init>", desc := "(Ljava/lang/String;)V" } : Jvm.MethodName)) ∈ GW := GW_2 0 (List.mem_of_getElem? (i := 59) rfl) rfl
theorem mw300 : (Jvm.Cond.code ({ cls := "java/lang/IllegalArgumentException", name := "<init>", desc := "(Ljava/lang/String;)V" } : Jvm.MethodName) prog_11_method_2_code (2 : Nat) (Option.none : Option Jvm.ClassFile.FieldType)) ∈ GW := GW_2 0 (List.mem_of_getElem? (i := 60) rfl) rfl
theorem mw301 : (Jvm.Cond.methodLink "java/lang/IllegalArgumentException" (7 : Nat) ({ cls := "java/lang/RuntimeException", name := "<init>", desc := "(Ljava/lang/String;)V" } : Jvm.MethodName)) ∈ GW := GW_2 0 (List.mem_of_getElem? (i := 61) rfl) rfl
theorem mw302 : (Jvm.Cond.lays "java/lang/IllegalArgumentException" "java/lang/Throwable" "depth" "I") ∈ GW := GW_2 0 (List.mem_of_getElem? (i := 62) rfl) rfl
theorem mw304 : (Jvm.Cond.methodLink "Marginnote" (72 : Nat) ({ cls := "Marginnote", name := "paperOf", desc := "(LMarginnote$Site;)LMarginnote$Paper;" } : Jvm.MethodName)) ∈ GW := GW_2 0 (List.mem_of_getElem? (i := 64) rfl) rfl
theorem mw305 : (Jvm.Cond.static ({ cls := "Marginnote", name := "paperOf", desc := "(LMarginnote$Site;)LMarginnote$Paper;" } : Jvm.MethodName)) ∈ GW := GW_2 0 (List.mem_of_getElem? (i := 65) rfl) rfl
theorem mw306 : (Jvm.Cond.code ({ cls := "Marginnote", name := "paperOf", desc := "(LMarginnote$Site;)LMarginnote$Paper;" } : Jvm.MethodName) prog_1_method_56_code (1 : Nat) (Option.some (Jvm.ClassFile.FieldType.object "Marginnote$Paper"))) ∈ GW := GW_2 0 (List.mem_of_getElem? (i := 66) rfl) rfl
theorem mw307 : (Jvm.Cond.methodLink "Marginnote" (260 : Nat) ({ cls := "Marginnote$Paper", name := "doAll", desc := "(LMarginnote$ActSet;)V" } : Jvm.MethodName)) ∈ GW := GW_2 0 (List.mem_of_getElem? (i := 67) rfl) rfl
theorem mw308 : (Jvm.Cond.instanceMethod ({ cls := "Marginnote$Paper", name := "doAll", desc := "(LMarginnote$ActSet;)V" } : Jvm.MethodName)) ∈ GW := GW_2 0 (List.mem_of_getElem? (i := 68) rfl) rfl
theorem mw309 : (Jvm.Cond.selects "Marginnote$Paper" ({ cls := "Marginnote$Paper", name := "doAll", desc := "(LMarginnote$ActSet;)V" } : Jvm.MethodName) ({ cls := "Marginnote$Paper", name := "doAll", desc := "(LMarginnote$ActSet;)V" } : Jvm.MethodName)) ∈ GW := GW_2 0 (List.mem_of_getElem? (i := 69) rfl) rfl
theorem mw310 : (Jvm.Cond.code ({ cls := "Marginnote$Paper", name := "doAll", desc := "(LMarginnote$ActSet;)V" } : Jvm.MethodName) prog_5_method_3_code (4 : Nat) (Option.none : Option Jvm.ClassFile.FieldType)) ∈ GW := GW_2 0 (List.mem_of_getElem? (i := 70) rfl) rfl
theorem mw311 : (Jvm.Cond.methodLink "Marginnote$Paper" (58 : Nat) ({ cls := "Marginnote$Paper", name := "clear", desc := "()V" } : Jvm.MethodName)) ∈ GW := GW_2 0 (List.mem_of_getElem? (i := 71) rfl) rfl
theorem mw313 : (Jvm.Cond.instanceMethod ({ cls := "Marginnote$Paper", name := "clear", desc := "()V" } : Jvm.MethodName)) ∈ GW := GW_2 0 (List.mem_of_getElem? (i := 73) rfl) rfl
theorem mw314 : (Jvm.Cond.code ({ cls := "Marginnote$Paper", name := "clear", desc := "()V" } : Jvm.MethodName) prog_5_method_2_code (3 : Nat) (Option.none : Option Jvm.ClassFile.FieldType)) ∈ GW := GW_2 0 (List.mem_of_getElem? (i := 74) rfl) rfl
theorem mw315 : (Jvm.Cond.methodLink "Marginnote$Paper" (61 : Nat) ({ cls := "Marginnote$Paper", name := "findUndone", desc := "(LMarginnote$ActSet;)V" } : Jvm.MethodName)) ∈ GW := GW_2 0 (List.mem_of_getElem? (i := 75) rfl) rfl
theorem mw317 : (Jvm.Cond.instanceMethod ({ cls := "Marginnote$Paper", name := "findUndone", desc := "(LMarginnote$ActSet;)V" } : Jvm.MethodName)) ∈ GW := GW_2 0 (List.mem_of_getElem? (i := 77) rfl) rfl
theorem mw318 : (Jvm.Cond.code ({ cls := "Marginnote$Paper", name := "findUndone", desc := "(LMarginnote$ActSet;)V" } : Jvm.MethodName) prog_5_method_4_code (6 : Nat) (Option.none : Option Jvm.ClassFile.FieldType)) ∈ GW := GW_2 0 (List.mem_of_getElem? (i := 78) rfl) rfl
theorem mw319 : (Jvm.Cond.methodLink "Marginnote$Paper" (65 : Nat) ({ cls := "Marginnote$Book", name := "inOrder", desc := "(I)I" } : Jvm.MethodName)) ∈ GW := GW_2 0 (List.mem_of_getElem? (i := 79) rfl) rfl
theorem mw320 : (Jvm.Cond.instanceMethod ({ cls := "Marginnote$Book", name := "inOrder", desc := "(I)I" } : Jvm.MethodName)) ∈ GW := GW_2 0 (List.mem_of_getElem? (i := 80) rfl) rfl
theorem mw321 : (Jvm.Cond.selects "Marginnote$Book" ({ cls := "Marginnote$Book", name := "inOrder", desc := "(I)I" } : Jvm.MethodName) ({ cls := "Marginnote$Book", name := "inOrder", desc := "(I)I" } : Jvm.MethodName)) ∈ GW := GW_2 0 (List.mem_of_getElem? (i := 81) rfl) rfl
theorem mw322 : (Jvm.Cond.code ({ cls := "Marginnote$Book", name := "inOrder", desc := "(I)I" } : Jvm.MethodName) prog_3_method_5_code (2 : Nat) (Option.some Jvm.ClassFile.FieldType.int)) ∈ GW := GW_2 0 (List.mem_of_getElem? (i := 82) rfl) rfl
theorem mw323 : (Jvm.Cond.methodLink "Marginnote$Paper" (79 : Nat) ({ cls := "Marginnote$Book", name := "kindOf", desc := "(I)I" } : Jvm.MethodName)) ∈ GW := GW_2 0 (List.mem_of_getElem? (i := 83) rfl) rfl
theorem mw324 : (Jvm.Cond.instanceMethod ({ cls := "Marginnote$Book", name := "kindOf", desc := "(I)I" } : Jvm.MethodName)) ∈ GW := GW_2 0 (List.mem_of_getElem? (i := 84) rfl) rfl
theorem mw325 : (Jvm.Cond.selects "Marginnote$Book" ({ cls := "Marginnote$Book", name := "kindOf", desc := "(I)I" } : Jvm.MethodName) ({ cls := "Marginnote$Book", name := "kindOf", desc := "(I)I" } : Jvm.MethodName)) ∈ GW := GW_2 0 (List.mem_of_getElem? (i := 85) rfl) rfl
theorem mw326 : (Jvm.Cond.code ({ cls := "Marginnote$Book", name := "kindOf", desc := "(I)I" } : Jvm.MethodName) prog_3_method_8_code (2 : Nat) (Option.some Jvm.ClassFile.FieldType.int)) ∈ GW := GW_2 0 (List.mem_of_getElem? (i := 86) rfl) rfl
theorem mw327 : (Jvm.Cond.methodLink "Marginnote$Paper" (82 : Nat) ({ cls := "Marginnote$Book", name := "firstOf", desc := "(I)I" } : Jvm.MethodName)) ∈ GW := GW_2 0 (List.mem_of_getElem? (i := 87) rfl) rfl
theorem mw328 : (Jvm.Cond.instanceMethod ({ cls := "Marginnote$Book", name := "firstOf", desc := "(I)I" } : Jvm.MethodName)) ∈ GW := GW_2 0 (List.mem_of_getElem? (i := 88) rfl) rfl
theorem mw329 : (Jvm.Cond.selects "Marginnote$Book" ({ cls := "Marginnote$Book", name := "firstOf", desc := "(I)I" } : Jvm.MethodName) ({ cls := "Marginnote$Book", name := "firstOf", desc := "(I)I" } : Jvm.MethodName)) ∈ GW := GW_2 0 (List.mem_of_getElem? (i := 89) rfl) rfl
theorem mw330 : (Jvm.Cond.code ({ cls := "Marginnote$Book", name := "firstOf", desc := "(I)I" } : Jvm.MethodName) prog_3_method_9_code (2 : Nat) (Option.some Jvm.ClassFile.FieldType.int)) ∈ GW := GW_2 0 (List.mem_of_getElem? (i := 90) rfl) rfl
theorem mw331 : (Jvm.Cond.methodLink "Marginnote$Paper" (69 : Nat) ({ cls := "Marginnote$ActSet", name := "contains", desc := "(I)Z" } : Jvm.MethodName)) ∈ GW := GW_2 0 (List.mem_of_getElem? (i := 91) rfl) rfl
theorem mw332 : (Jvm.Cond.instanceMethod ({ cls := "Marginnote$ActSet", name := "contains", desc := "(I)Z" } : Jvm.MethodName)) ∈ GW := GW_2 0 (List.mem_of_getElem? (i := 92) rfl) rfl
theorem mw333 : (Jvm.Cond.selects "Marginnote$ActSet" ({ cls := "Marginnote$ActSet", name := "contains", desc := "(I)Z" } : Jvm.MethodName) ({ cls := "Marginnote$ActSet", name := "contains", desc := "(I)Z" } : Jvm.MethodName)) ∈ GW := GW_2 0 (List.mem_of_getElem? (i := 93) rfl) rfl
theorem mw334 : (Jvm.Cond.code ({ cls := "Marginnote$ActSet", name := "contains", desc := "(I)Z" } : Jvm.MethodName) prog_2_method_2_code (2 : Nat) (Option.some Jvm.ClassFile.FieldType.boolean)) ∈ GW := GW_2 0 (List.mem_of_getElem? (i := 94) rfl) rfl
theorem mw335 : (Jvm.Cond.methodLink "Marginnote$Paper" (85 : Nat) ({ cls := "Marginnote$Paper", name := "isNumber", desc := "(I)Z" } : Jvm.MethodName)) ∈ GW := GW_2 0 (List.mem_of_getElem? (i := 95) rfl) rfl
theorem mw336 : (Jvm.Cond.static ({ cls := "Marginnote$Paper", name := "isNumber", desc := "(I)Z" } : Jvm.MethodName)) ∈ GW := GW_2 0 (List.mem_of_getElem? (i := 96) rfl) rfl
theorem mw337 : (Jvm.Cond.code ({ cls := "Marginnote$Paper", name := "isNumber", desc := "(I)Z" } : Jvm.MethodName) prog_5_method_15_code (1 : Nat) (Option.some Jvm.ClassFile.FieldType.boolean)) ∈ GW := GW_2 0 (List.mem_of_getElem? (i := 97) rfl) rfl
theorem mw338 : (Jvm.Cond.methodLink "Marginnote$Paper" (75 : Nat) ({ cls := "Marginnote$Paper", name := "perform", desc := "(I)V" } : Jvm.MethodName)) ∈ GW := GW_2 0 (List.mem_of_getElem? (i := 98) rfl) rfl
theorem mw339 : (Jvm.Cond.instanceMethod ({ cls := "Marginnote$Paper", name := "perform", desc := "(I)V" } : Jvm.MethodName)) ∈ GW := GW_2 0 (List.mem_of_getElem? (i := 99) rfl) rfl
theorem mw340 : (Jvm.Cond.selects "Marginnote$Paper" ({ cls := "Marginnote$Paper", name := "perform", desc := "(I)V" } : Jvm.MethodName) ({ cls := "Marginnote$Paper", name := "perform", desc := "(I)V" } : Jvm.MethodName)) ∈ GW := GW_2 0 (List.mem_of_getElem? (i := 100) rfl) rfl
theorem mw341 : (Jvm.Cond.code ({ cls := "Marginnote$Paper", name := "perform", desc := "(I)V" } : Jvm.MethodName) prog_5_method_5_code (3 : Nat) (Option.none : Option Jvm.ClassFile.FieldType)) ∈ GW := GW_2 0 (List.mem_of_getElem? (i := 101) rfl) rfl
theorem mw342 : (Jvm.Cond.methodLink "Marginnote$Paper" (88 : Nat) ({ cls := "Marginnote$Paper", name := "wasUndone", desc := "(I)Z" } : Jvm.MethodName)) ∈ GW := GW_2 0 (List.mem_of_getElem? (i := 102) rfl) rfl
theorem mw343 : (Jvm.Cond.instanceMethod ({ cls := "Marginnote$Paper", name := "wasUndone", desc := "(I)Z" } : Jvm.MethodName)) ∈ GW := GW_2 0 (List.mem_of_getElem? (i := 103) rfl) rfl
theorem mw344 : (Jvm.Cond.selects "Marginnote$Paper" ({ cls := "Marginnote$Paper", name := "wasUndone", desc := "(I)Z" } : Jvm.MethodName) ({ cls := "Marginnote$Paper", name := "wasUndone", desc := "(I)Z" } : Jvm.MethodName)) ∈ GW := GW_2 0 (List.mem_of_getElem? (i := 104) rfl) rfl
theorem mw345 : (Jvm.Cond.code ({ cls := "Marginnote$Paper", name := "wasUndone", desc := "(I)Z" } : Jvm.MethodName) prog_5_method_16_code (2 : Nat) (Option.some Jvm.ClassFile.FieldType.boolean)) ∈ GW := GW_2 0 (List.mem_of_getElem? (i := 105) rfl) rfl
theorem mw346 : (Jvm.Cond.methodLink "Marginnote$Paper" (91 : Nat) ({ cls := "Marginnote$Paper", name := "putElement", desc := "(I)V" } : Jvm.MethodName)) ∈ GW := GW_2 0 (List.mem_of_getElem? (i := 106) rfl) rfl
theorem mw348 : (Jvm.Cond.instanceMethod ({ cls := "Marginnote$Paper", name := "putElement", desc := "(I)V" } : Jvm.MethodName)) ∈ GW := GW_2 0 (List.mem_of_getElem? (i := 108) rfl) rfl
theorem mw349 : (Jvm.Cond.code ({ cls := "Marginnote$Paper", name := "putElement", desc := "(I)V" } : Jvm.MethodName) prog_5_method_6_code (7 : Nat) (Option.none : Option Jvm.ClassFile.FieldType)) ∈ GW := GW_2 0 (List.mem_of_getElem? (i := 109) rfl) rfl
theorem mw350 : (Jvm.Cond.methodLink "Marginnote$Paper" (125 : Nat) ({ cls := "Marginnote$Paper", name := "placeOf", desc := "(I)I" } : Jvm.MethodName)) ∈ GW := GW_2 0 (List.mem_of_getElem? (i := 110) rfl) rfl
theorem mw352 : (Jvm.Cond.instanceMethod ({ cls := "Marginnote$Paper", name := "placeOf", desc := "(I)I" } : Jvm.MethodName)) ∈ GW := GW_2 0 (List.mem_of_getElem? (i := 112) rfl) rfl
theorem mw353 : (Jvm.Cond.code ({ cls := "Marginnote$Paper", name := "placeOf", desc := "(I)I" } : Jvm.MethodName) prog_5_method_29_code (3 : Nat) (Option.some Jvm.ClassFile.FieldType.int)) ∈ GW := GW_2 0 (List.mem_of_getElem? (i := 113) rfl) rfl
theorem mw354 : (Jvm.Cond.methodLink "Marginnote$Paper" (138 : Nat) ({ cls := "Marginnote$Paper", name := "inRow", desc := "(I)I" } : Jvm.MethodName)) ∈ GW := GW_2 0 (List.mem_of_getElem? (i := 114) rfl) rfl
theorem mw356 : (Jvm.Cond.instanceMethod ({ cls := "Marginnote$Paper", name := "inRow", desc := "(I)I" } : Jvm.MethodName)) ∈ GW := GW_2 0 (List.mem_of_getElem? (i := 116) rfl) rfl
theorem mw357 : (Jvm.Cond.code ({ cls := "Marginnote$Paper", name := "inRow", desc := "(I)I" } : Jvm.MethodName) prog_5_method_28_code (2 : Nat) (Option.some Jvm.ClassFile.FieldType.int)) ∈ GW := GW_2 0 (List.mem_of_getElem? (i := 117) rfl) rfl
theorem mw358 : (Jvm.Cond.methodLink "Marginnote$Paper" (128 : Nat) ({ cls := "Marginnote$Book", name := "siteOf", desc := "(I)I" } : Jvm.MethodName)) ∈ GW := GW_2 0 (List.mem_of_getElem? (i := 118) rfl) rfl
theorem mw359 : (Jvm.Cond.instanceMethod ({ cls := "Marginnote$Book", name := "siteOf", desc := "(I)I" } : Jvm.MethodName)) ∈ GW := GW_2 0 (List.mem_of_getElem? (i := 119) rfl) rfl
theorem mw360 : (Jvm.Cond.selects "Marginnote$Book" ({ cls := "Marginnote$Book", name := "siteOf", desc := "(I)I" } : Jvm.MethodName) ({ cls := "Marginnote$Book", name := "siteOf", desc := "(I)I" } : Jvm.MethodName)) ∈ GW := GW_2 0 (List.mem_of_getElem? (i := 120) rfl) rfl
theorem mw361 : (Jvm.Cond.code ({ cls := "Marginnote$Book", name := "siteOf", desc := "(I)I" } : Jvm.MethodName) prog_3_method_6_code (2 : Nat) (Option.some Jvm.ClassFile.FieldType.int)) ∈ GW := GW_2 0 (List.mem_of_getElem? (i := 121) rfl) rfl
theorem mw362 : (Jvm.Cond.methodLink "Marginnote$Paper" (131 : Nat) ({ cls := "Marginnote$Paper", name := "blockOf", desc := "(I)I" } : Jvm.MethodName)) ∈ GW := GW_2 0 (List.mem_of_getElem? (i := 122) rfl) rfl
theorem mw364 : (Jvm.Cond.instanceMethod ({ cls := "Marginnote$Paper", name := "blockOf", desc := "(I)I" } : Jvm.MethodName)) ∈ GW := GW_2 0 (List.mem_of_getElem? (i := 124) rfl) rfl
theorem mw365 : (Jvm.Cond.code ({ cls := "Marginnote$Paper", name := "blockOf", desc := "(I)I" } : Jvm.MethodName) prog_5_method_39_code (4 : Nat) (Option.some Jvm.ClassFile.FieldType.int)) ∈ GW := GW_2 0 (List.mem_of_getElem? (i := 125) rfl) rfl
theorem mw366 : (Jvm.Cond.methodLink "Marginnote$Paper" (153 : Nat) ({ cls := "Marginnote$Paper", name := "isShownBreak", desc := "(I)Z" } : Jvm.MethodName)) ∈ GW := GW_2 0 (List.mem_of_getElem? (i := 126) rfl) rfl
theorem mw368 : (Jvm.Cond.instanceMethod ({ cls := "Marginnote$Paper", name := "isShownBreak", desc := "(I)Z" } : Jvm.MethodName)) ∈ GW := GW_2 0 (List.mem_of_getElem? (i := 128) rfl) rfl
theorem mw369 : (Jvm.Cond.code ({ cls := "Marginnote$Paper", name := "isShownBreak", desc := "(I)Z" } : Jvm.MethodName) prog_5_method_25_code (2 : Nat) (Option.some Jvm.ClassFile.FieldType.boolean)) ∈ GW := GW_2 0 (List.mem_of_getElem? (i := 129) rfl) rfl
theorem mw370 : (Jvm.Cond.methodLink "Marginnote$Paper" (134 : Nat) ({ cls := "Marginnote$Paper", name := "levelIn", desc := "(II)I" } : Jvm.MethodName)) ∈ GW := GW_2 0 (List.mem_of_getElem? (i := 130) rfl) rfl
theorem mw371 : (Jvm.Cond.instanceMethod ({ cls := "Marginnote$Paper", name := "levelIn", desc := "(II)I" } : Jvm.MethodName)) ∈ GW := GW_2 0 (List.mem_of_getElem? (i := 131) rfl) rfl
theorem mw372 : (Jvm.Cond.selects "Marginnote$Paper" ({ cls := "Marginnote$Paper", name := "levelIn", desc := "(II)I" } : Jvm.MethodName) ({ cls := "Marginnote$Paper", name := "levelIn", desc := "(II)I" } : Jvm.MethodName)) ∈ GW := GW_2 0 (List.mem_of_getElem? (i := 132) rfl) rfl
theorem mw373 : (Jvm.Cond.code ({ cls := "Marginnote$Paper", name := "levelIn", desc := "(II)I" } : Jvm.MethodName) prog_5_method_40_code (3 : Nat) (Option.some Jvm.ClassFile.FieldType.int)) ∈ GW := GW_2 0 (List.mem_of_getElem? (i := 133) rfl) rfl
theorem mw374 : (Jvm.Cond.methodLink "Marginnote$Paper" (156 : Nat) ({ cls := "Marginnote$Paper", name := "isBlock", desc := "(I)Z" } : Jvm.MethodName)) ∈ GW := GW_2 0 (List.mem_of_getElem? (i := 134) rfl) rfl
theorem mw375 : (Jvm.Cond.static ({ cls := "Marginnote$Paper", name := "isBlock", desc := "(I)Z" } : Jvm.MethodName)) ∈ GW := GW_2 0 (List.mem_of_getElem? (i := 135) rfl) rfl
theorem mw376 : (Jvm.Cond.code ({ cls := "Marginnote$Paper", name := "isBlock", desc := "(I)Z" } : Jvm.MethodName) prog_5_method_38_code (1 : Nat) (Option.some Jvm.ClassFile.FieldType.boolean)) ∈ GW := GW_2 0 (List.mem_of_getElem? (i := 136) rfl) rfl
theorem mw377 : (Jvm.Cond.methodLink "Marginnote$Paper" (103 : Nat) ({ cls := "Marginnote$Book", name := "flagOf", desc := "(I)Z" } : Jvm.MethodName)) ∈ GW := GW_2 0 (List.mem_of_getElem? (i := 137) rfl) rfl
theorem mw378 : (Jvm.Cond.instanceMethod ({ cls := "Marginnote$Book", name := "flagOf", desc := "(I)Z" } : Jvm.MethodName)) ∈ GW := GW_2 0 (List.mem_of_getElem? (i := 138) rfl) rfl
theorem mw379 : (Jvm.Cond.selects "Marginnote$Book" ({ cls := "Marginnote$Book", name := "flagOf", desc := "(I)Z" } : Jvm.MethodName) ({ cls := "Marginnote$Book", name := "flagOf", desc := "(I)Z" } : Jvm.MethodName)) ∈ GW := GW_2 0 (List.mem_of_getElem? (i := 139) rfl) rfl
theorem mw380 : (Jvm.Cond.code ({ cls := "Marginnote$Book", name := "flagOf", desc := "(I)Z" } : Jvm.MethodName) prog_3_method_12_code (2 : Nat) (Option.some Jvm.ClassFile.FieldType.boolean)) ∈ GW := GW_2 0 (List.mem_of_getElem? (i := 140) rfl) rfl
theorem mw381 : (Jvm.Cond.methodLink "Marginnote$Paper" (141 : Nat) ({ cls := "Marginnote$Paper", name := "bitsOf", desc := "(I)I" } : Jvm.MethodName)) ∈ GW := GW_2 0 (List.mem_of_getElem? (i := 141) rfl) rfl
theorem mw383 : (Jvm.Cond.instanceMethod ({ cls := "Marginnote$Paper", name := "bitsOf", desc := "(I)I" } : Jvm.MethodName)) ∈ GW := GW_2 0 (List.mem_of_getElem? (i := 143) rfl) rfl
theorem mw384 : (Jvm.Cond.code ({ cls := "Marginnote$Paper", name := "bitsOf", desc := "(I)I" } : Jvm.MethodName) prog_5_method_26_code (2 : Nat) (Option.some Jvm.ClassFile.FieldType.int)) ∈ GW := GW_2 0 (List.mem_of_getElem? (i := 144) rfl) rfl
theorem mw385 : (Jvm.Cond.methodLink "Marginnote$Paper" (144 : Nat) ({ cls := "java/lang/System", name := "arraycopy", desc := "(Ljava/lang/Object;ILjava/lang/Object;II)V" } : Jvm.MethodName)) ∈ GW := GW_2 0 (List.mem_of_getElem? (i := 145) rfl) rfl
theorem mw386 : (Jvm.Cond.static ({ cls := "java/lang/System", name := "arraycopy", desc := "(Ljava/lang/Object;ILjava/lang/Object;II)V" } : Jvm.MethodName)) ∈ GW := GW_2 0 (List.mem_of_getElem? (i := 146) rfl) rfl
theorem mw387 : (Jvm.Cond.native ({ cls := "java/lang/System", name := "arraycopy", desc := "(Ljava/lang/Object;ILjava/lang/Object;II)V" } : Jvm.MethodName)) ∈ GW := GW_2 0 (List.mem_of_getElem? (i := 147) rfl) rfl
theorem mw388 : (Jvm.Cond.methodLink "Marginnote$Paper" (94 : Nat) ({ cls := "Marginnote$Paper", name := "removeElement", desc := "(I)V" } : Jvm.MethodName)) ∈ GW := GW_2 0 (List.mem_of_getElem? (i := 148) rfl) rfl
theorem mw390 : (Jvm.Cond.instanceMethod ({ cls := "Marginnote$Paper", name := "removeElement", desc := "(I)V" } : Jvm.MethodName)) ∈ GW := GW_2 0 (List.mem_of_getElem? (i := 150) rfl) rfl
theorem mw391 : (Jvm.Cond.code ({ cls := "Marginnote$Paper", name := "removeElement", desc := "(I)V" } : Jvm.MethodName) prog_5_method_7_code (6 : Nat) (Option.none : Option Jvm.ClassFile.FieldType)) ∈ GW := GW_2 0 (List.mem_of_getElem? (i := 151) rfl) rfl
theorem mw392 : (Jvm.Cond.methodLink "Marginnote$Paper" (97 : Nat) ({ cls := "Marginnote$Paper", name := "restoreElement", desc := "(I)V" } : Jvm.MethodName)) ∈ GW := GW_2 0 (List.mem_of_getElem? (i := 152) rfl) rfl
theorem mw394 : (Jvm.Cond.instanceMethod ({ cls := "Marginnote$Paper", name := "restoreElement", desc := "(I)V" } : Jvm.MethodName)) ∈ GW := GW_2 0 (List.mem_of_getElem? (i := 154) rfl) rfl
theorem mw395 : (Jvm.Cond.code ({ cls := "Marginnote$Paper", name := "restoreElement", desc := "(I)V" } : Jvm.MethodName) prog_5_method_8_code (3 : Nat) (Option.none : Option Jvm.ClassFile.FieldType)) ∈ GW := GW_2 0 (List.mem_of_getElem? (i := 155) rfl) rfl
theorem mw396 : (Jvm.Cond.methodLink "Marginnote$Paper" (100 : Nat) ({ cls := "Marginnote$Book", name := "valueOf", desc := "(I)I" } : Jvm.MethodName)) ∈ GW := GW_2 0 (List.mem_of_getElem? (i := 156) rfl) rfl
theorem mw397 : (Jvm.Cond.instanceMethod ({ cls := "Marginnote$Book", name := "valueOf", desc := "(I)I" } : Jvm.MethodName)) ∈ GW := GW_2 0 (List.mem_of_getElem? (i := 157) rfl) rfl
theorem mw398 : (Jvm.Cond.selects "Marginnote$Book" ({ cls := "Marginnote$Book", name := "valueOf", desc := "(I)I" } : Jvm.MethodName) ({ cls := "Marginnote$Book", name := "valueOf", desc := "(I)I" } : Jvm.MethodName)) ∈ GW := GW_2 0 (List.mem_of_getElem? (i := 158) rfl) rfl
theorem mw399 : (Jvm.Cond.code ({ cls := "Marginnote$Book", name := "valueOf", desc := "(I)I" } : Jvm.MethodName) prog_3_method_11_code (2 : Nat) (Option.some Jvm.ClassFile.FieldType.int)) ∈ GW := GW_2 0 (List.mem_of_getElem? (i := 159) rfl) rfl
theorem mw400 : (Jvm.Cond.methodLink "Marginnote$Paper" (106 : Nat) ({ cls := "Marginnote$Paper", name := "paint", desc := "(IIZ)V" } : Jvm.MethodName)) ∈ GW := GW_2 0 (List.mem_of_getElem? (i := 160) rfl) rfl
theorem mw402 : (Jvm.Cond.instanceMethod ({ cls := "Marginnote$Paper", name := "paint", desc := "(IIZ)V" } : Jvm.MethodName)) ∈ GW := GW_2 0 (List.mem_of_getElem? (i := 162) rfl) rfl
theorem mw403 : (Jvm.Cond.code ({ cls := "Marginnote$Paper", name := "paint", desc := "(IIZ)V" } : Jvm.MethodName) prog_5_method_9_code (12 : Nat) (Option.none : Option Jvm.ClassFile.FieldType)) ∈ GW := GW_2 0 (List.mem_of_getElem? (i := 163) rfl) rfl
theorem mw404 : (Jvm.Cond.methodLink "Marginnote$Paper" (150 : Nat) ({ cls := "Marginnote$Book", name := "secondOf", desc := "(I)I" } : Jvm.MethodName)) ∈ GW := GW_2 0 (List.mem_of_getElem? (i := 164) rfl) rfl
theorem mw405 : (Jvm.Cond.instanceMethod ({ cls := "Marginnote$Book", name := "secondOf", desc := "(I)I" } : Jvm.MethodName)) ∈ GW := GW_2 0 (List.mem_of_getElem? (i := 165) rfl) rfl
theorem mw406 : (Jvm.Cond.selects "Marginnote$Book" ({ cls := "Marginnote$Book", name := "secondOf", desc := "(I)I" } : Jvm.MethodName) ({ cls := "Marginnote$Book", name := "secondOf", desc := "(I)I" } : Jvm.MethodName)) ∈ GW := GW_2 0 (List.mem_of_getElem? (i := 166) rfl) rfl
theorem mw407 : (Jvm.Cond.code ({ cls := "Marginnote$Book", name := "secondOf", desc := "(I)I" } : Jvm.MethodName) prog_3_method_10_code (2 : Nat) (Option.some Jvm.ClassFile.FieldType.int)) ∈ GW := GW_2 0 (List.mem_of_getElem? (i := 167) rfl) rfl
theorem mw408 : (Jvm.Cond.methodLink "Marginnote$Paper" (110 : Nat) ({ cls := "Marginnote$Paper", name := "giveKind", desc := "(I)V" } : Jvm.MethodName)) ∈ GW := GW_2 0 (List.mem_of_getElem? (i := 168) rfl) rfl
theorem mw410 : (Jvm.Cond.instanceMethod ({ cls := "Marginnote$Paper", name := "giveKind", desc := "(I)V" } : Jvm.MethodName)) ∈ GW := GW_2 0 (List.mem_of_getElem? (i := 170) rfl) rfl
theorem mw411 : (Jvm.Cond.code ({ cls := "Marginnote$Paper", name := "giveKind", desc := "(I)V" } : Jvm.MethodName) prog_5_method_10_code (3 : Nat) (Option.none : Option Jvm.ClassFile.FieldType)) ∈ GW := GW_2 0 (List.mem_of_getElem? (i := 171) rfl) rfl
theorem mw412 : (Jvm.Cond.methodLink "Marginnote$Paper" (113 : Nat) ({ cls := "Marginnote$Paper", name := "putUnder", desc := "(I)V" } : Jvm.MethodName)) ∈ GW := GW_2 0 (List.mem_of_getElem? (i := 172) rfl) rfl
theorem mw414 : (Jvm.Cond.instanceMethod ({ cls := "Marginnote$Paper", name := "putUnder", desc := "(I)V" } : Jvm.MethodName)) ∈ GW := GW_2 0 (List.mem_of_getElem? (i := 174) rfl) rfl
theorem mw415 : (Jvm.Cond.code ({ cls := "Marginnote$Paper", name := "putUnder", desc := "(I)V" } : Jvm.MethodName) prog_5_method_11_code (4 : Nat) (Option.none : Option Jvm.ClassFile.FieldType)) ∈ GW := GW_2 0 (List.mem_of_getElem? (i := 175) rfl) rfl
theorem mw416 : (Jvm.Cond.methodLink "Marginnote$Paper" (159 : Nat) ({ cls := "Marginnote$Paper", name := "comesTo", desc := "(II)Z" } : Jvm.MethodName)) ∈ GW := GW_2 0 (List.mem_of_getElem? (i := 176) rfl) rfl
theorem mw418 : (Jvm.Cond.instanceMethod ({ cls := "Marginnote$Paper", name := "comesTo", desc := "(II)Z" } : Jvm.MethodName)) ∈ GW := GW_2 0 (List.mem_of_getElem? (i := 178) rfl) rfl
theorem mw419 : (Jvm.Cond.code ({ cls := "Marginnote$Paper", name := "comesTo", desc := "(II)Z" } : Jvm.MethodName) prog_5_method_12_code (5 : Nat) (Option.some Jvm.ClassFile.FieldType.boolean)) ∈ GW := GW_2 0 (List.mem_of_getElem? (i := 179) rfl) rfl
theorem mw421 : (Jvm.Cond.static ({ cls := "Marginnote", name := "commentBit", desc := "(I)I" } : Jvm.MethodName)) ∈ GW := GW_2 0 (List.mem_of_getElem? (i := 181) rfl) rfl
theorem mw422 : (Jvm.Cond.code ({ cls := "Marginnote", name := "commentBit", desc := "(I)I" } : Jvm.MethodName) prog_1_method_55_code (1 : Nat) (Option.some Jvm.ClassFile.FieldType.int)) ∈ GW := GW_2 0 (List.mem_of_getElem? (i := 182) rfl) rfl
theorem mw423 : (Jvm.Cond.methodLink "Marginnote$Paper" (119 : Nat) ({ cls := "Marginnote$Paper", name := "settle", desc := "(I)V" } : Jvm.MethodName)) ∈ GW := GW_2 0 (List.mem_of_getElem? (i := 183) rfl) rfl
theorem mw425 : (Jvm.Cond.instanceMethod ({ cls := "Marginnote$Paper", name := "settle", desc := "(I)V" } : Jvm.MethodName)) ∈ GW := GW_2 0 (List.mem_of_getElem? (i := 185) rfl) rfl
theorem mw426 : (Jvm.Cond.code ({ cls := "Marginnote$Paper", name := "settle", desc := "(I)V" } : Jvm.MethodName) prog_5_method_13_code (5 : Nat) (Option.none : Option Jvm.ClassFile.FieldType)) ∈ GW := GW_2 0 (List.mem_of_getElem? (i := 186) rfl) rfl
theorem mw427 : (Jvm.Cond.methodLink "Marginnote$Paper" (163 : Nat) ({ cls := "Marginnote$Paper", name := "elementOf", desc := "(I)I" } : Jvm.MethodName)) ∈ GW := GW_2 0 (List.mem_of_getElem? (i := 187) rfl) rfl
theorem mw429 : (Jvm.Cond.instanceMethod ({ cls := "Marginnote$Paper", name := "elementOf", desc := "(I)I" } : Jvm.MethodName)) ∈ GW := GW_2 0 (List.mem_of_getElem? (i := 189) rfl) rfl
theorem mw430 : (Jvm.Cond.code ({ cls := "Marginnote$Paper", name := "elementOf", desc := "(I)I" } : Jvm.MethodName) prog_5_method_18_code (2 : Nat) (Option.some Jvm.ClassFile.FieldType.int)) ∈ GW := GW_2 0 (List.mem_of_getElem? (i := 190) rfl) rfl
theorem mw431 : (Jvm.Cond.methodLink "Marginnote$Paper" (169 : Nat) ({ cls := "Marginnote$Book", name := "makesElement", desc := "(I)Z" } : Jvm.MethodName)) ∈ GW := GW_2 0 (List.mem_of_getElem? (i := 191) rfl) rfl
theorem mw432 : (Jvm.Cond.instanceMethod ({ cls := "Marginnote$Book", name := "makesElement", desc := "(I)Z" } : Jvm.MethodName)) ∈ GW := GW_2 0 (List.mem_of_getElem? (i := 192) rfl) rfl
theorem mw433 : (Jvm.Cond.selects "Marginnote$Book" ({ cls := "Marginnote$Book", name := "makesElement", desc := "(I)Z" } : Jvm.MethodName) ({ cls := "Marginnote$Book", name := "makesElement", desc := "(I)Z" } : Jvm.MethodName)) ∈ GW := GW_2 0 (List.mem_of_getElem? (i := 193) rfl) rfl
theorem mw434 : (Jvm.Cond.code ({ cls := "Marginnote$Book", name := "makesElement", desc := "(I)Z" } : Jvm.MethodName) prog_3_method_13_code (2 : Nat) (Option.some Jvm.ClassFile.FieldType.boolean)) ∈ GW := GW_2 0 (List.mem_of_getElem? (i := 194) rfl) rfl
theorem mw435 : (Jvm.Cond.methodLink "Marginnote$Paper" (166 : Nat) ({ cls := "Marginnote$Paper", name := "isOpen", desc := "(I)Z" } : Jvm.MethodName)) ∈ GW := GW_2 0 (List.mem_of_getElem? (i := 195) rfl) rfl
theorem mw437 : (Jvm.Cond.instanceMethod ({ cls := "Marginnote$Paper", name := "isOpen", desc := "(I)Z" } : Jvm.MethodName)) ∈ GW := GW_2 0 (List.mem_of_getElem? (i := 197) rfl) rfl
theorem mw438 : (Jvm.Cond.code ({ cls := "Marginnote$Paper", name := "isOpen", desc := "(I)Z" } : Jvm.MethodName) prog_5_method_19_code (3 : Nat) (Option.some Jvm.ClassFile.FieldType.boolean)) ∈ GW := GW_2 0 (List.mem_of_getElem? (i := 198) rfl) rfl
theorem mw439 : (Jvm.Cond.methodLink "Marginnote$Paper" (172 : Nat) ({ cls := "Marginnote$Paper", name := "isSeen", desc := "(I)Z" } : Jvm.MethodName)) ∈ GW := GW_2 0 (List.mem_of_getElem? (i := 199) rfl) rfl
theorem mw440 : (Jvm.Cond.instanceMethod ({ cls := "Marginnote$Paper", name := "isSeen", desc := "(I)Z" } : Jvm.MethodName)) ∈ GW := GW_2 0 (List.mem_of_getElem? (i := 200) rfl) rfl
theorem mw441 : (Jvm.Cond.selects "Marginnote$Paper" ({ cls := "Marginnote$Paper", name := "isSeen", desc := "(I)Z" } : Jvm.MethodName) ({ cls := "Marginnote$Paper", name := "isSeen", desc := "(I)Z" } : Jvm.MethodName)) ∈ GW := GW_2 0 (List.mem_of_getElem? (i := 201) rfl) rfl
theorem mw442 : (Jvm.Cond.code ({ cls := "Marginnote$Paper", name := "isSeen", desc := "(I)Z" } : Jvm.MethodName) prog_5_method_22_code (2 : Nat) (Option.some Jvm.ClassFile.FieldType.boolean)) ∈ GW := GW_2 0 (List.mem_of_getElem? (i := 202) rfl) rfl
theorem mw443 : (Jvm.Cond.methodLink "Marginnote$Paper" (122 : Nat) ({ cls := "Marginnote$Paper", name := "giveLevel", desc := "(I)V" } : Jvm.MethodName)) ∈ GW := GW_2 0 (List.mem_of_getElem? (i := 203) rfl) rfl
theorem mw445 : (Jvm.Cond.instanceMethod ({ cls := "Marginnote$Paper", name := "giveLevel", desc := "(I)V" } : Jvm.MethodName)) ∈ GW := GW_2 0 (List.mem_of_getElem? (i := 205) rfl) rfl
theorem mw446 : (Jvm.Cond.code ({ cls := "Marginnote$Paper", name := "giveLevel", desc := "(I)V" } : Jvm.MethodName) prog_5_method_14_code (4 : Nat) (Option.none : Option Jvm.ClassFile.FieldType)) ∈ GW := GW_2 0 (List.mem_of_getElem? (i := 206) rfl) rfl
theorem mw447 : (Jvm.Cond.methodLink "Marginnote" (76 : Nat) ({ cls := "Marginnote", name := "writeBehindCursor", desc := "(LMarginnote$Site;LMarginnote$Paper;IC)I" } : Jvm.MethodName)) ∈ GW := GW_2 0 (List.mem_of_getElem? (i := 207) rfl) rfl
theorem mw449 : (Jvm.Cond.instanceMethod ({ cls := "Marginnote", name := "writeBehindCursor", desc := "(LMarginnote$Site;LMarginnote$Paper;IC)I" } : Jvm.MethodName)) ∈ GW := GW_2 0 (List.mem_of_getElem? (i := 209) rfl) rfl
theorem mw450 : (Jvm.Cond.code ({ cls := "Marginnote", name := "writeBehindCursor", desc := "(LMarginnote$Site;LMarginnote$Paper;IC)I" } : Jvm.MethodName) prog_1_method_57_code (7 : Nat) (Option.some Jvm.ClassFile.FieldType.int)) ∈ GW := GW_2 0 (List.mem_of_getElem? (i := 210) rfl) rfl
theorem mw452 : (Jvm.Cond.methodLink "Marginnote" (307 : Nat) ({ cls := "Marginnote$Paper", name := "levelIn", desc := "(II)I" } : Jvm.MethodName)) ∈ GW := GW_2 0 (List.mem_of_getElem? (i := 212) rfl) rfl
theorem mw453 : (Jvm.Cond.classLink "Marginnote" (100 : Nat) "java/lang/IllegalStateException") ∈ GW := GW_2 0 (List.mem_of_getElem? (i := 213) rfl) rfl
theorem mw454 : (Jvm.Cond.instantiable "java/lang/IllegalStateException" (6 : Nat)) ∈ GW := GW_2 0 (List.mem_of_getElem? (i := 214) rfl) rfl
theorem mw456 : (Jvm.Cond.selects "java/lang/IllegalStateException" ({ cls := "java/lang/Throwable", name := "fillInStackTrace", desc := "(I)Ljava/lang/Throwable;" } : Jvm.MethodName) ({ cls := "java/lang/Throwable", name := "fillInStackTrace", desc := "(I)Ljava/lang/Throwable;" } : Jvm.MethodName)) ∈ GW := GW_2 0 (List.mem_of_getElem? (i := 216) rfl) rfl
theorem mw457 : (Jvm.Cond.lays "java/lang/IllegalStateException" "java/lang/Throwable" "cause" "Ljava/lang/Throwable;") ∈ GW := GW_2 0 (List.mem_of_getElem? (i := 217) rfl) rfl
theorem mw458 : (Jvm.Cond.lays "java/lang/IllegalStateException" "java/lang/Throwable" "stackTrace" "[Ljava/lang/StackTraceElement;") ∈ GW := GW_2 0 (List.mem_of_getElem? (i := 218) rfl) rfl
theorem mw459 : (Jvm.Cond.lays "java/lang/IllegalStateException" "java/lang/Throwable" "suppressedExceptions" "Ljava/util/List;") ∈ GW := GW_2 0 (List.mem_of_getElem? (i := 219) rfl) rfl
theorem mw460 : (Jvm.Cond.lays "java/lang/IllegalStateException" "java/lang/Throwable" "detailMessage" "Ljava/lang/String;") ∈ GW := GW_2 0 (List.mem_of_getElem? (i := 220) rfl) rfl
theorem mw461 : (Jvm.Cond.lays "java/lang/IllegalStateException" "java/lang/Throwable" "backtrace" "Ljava/lang/Object;") ∈ GW := GW_2 0 (List.mem_of_getElem? (i := 221) rfl) rfl
theorem mw463 : (Jvm.Cond.methodLink "Marginnote" (104 : Nat) ({ cls := "java/lang/IllegalStateException", name := "<init>", desc := "(Ljava/lang/String;)V" } : Jvm.MethodName)) ∈ GW := GW_2 0 (List.mem_of_getElem? (i := 223) rfl) rfl
theorem mw464 : (Jvm.Cond.instanceMethod ({ cls := "java/lang/IllegalStateException", name := "<init>", desc := "(Ljava/lang/String;)V" } : Jvm.MethodName)) ∈ GW := GW_2 0 (List.mem_of_getElem? (i := 224) rfl) rfl
theorem mw465 : (Jvm.Cond.code ({ cls := "java/lang/IllegalStateException", name := "<init>", desc := "(Ljava/lang/String;)V" } : Jvm.MethodName) prog_12_method_2_code (2 : Nat) (Option.none : Option Jvm.ClassFile.FieldType)) ∈ GW := GW_2 0 (List.mem_of_getElem? (i := 225) rfl) rfl
theorem mw466 : (Jvm.Cond.methodLink "java/lang/IllegalStateException" (7 : Nat) ({ cls := "java/lang/RuntimeException", name := "<init>", desc := "(Ljava/lang/String;)V" } : Jvm.MethodName)) ∈ GW := GW_2 0 (List.mem_of_getElem? (i := 226) rfl) rfl
theorem mw467 : (Jvm.Cond.lays "java/lang/IllegalStateException" "java/lang/Throwable" "depth" "I") ∈ GW := GW_2 0 (List.mem_of_getElem? (i := 227) rfl) rfl
theorem mw469 : (Jvm.Cond.methodLink "Marginnote" (105 : Nat) ({ cls := "Marginnote", name := "checkRoomFor", desc := "(I)V" } : Jvm.MethodName)) ∈ GW := GW_2 0 (List.mem_of_getElem? (i := 229) rfl) rfl
theorem mw471 : (Jvm.Cond.instanceMethod ({ cls := "Marginnote", name := "checkRoomFor", desc := "(I)V" } : Jvm.MethodName)) ∈ GW := GW_2 0 (List.mem_of_getElem? (i := 231) rfl) rfl
theorem mw472 : (Jvm.Cond.code ({ cls := "Marginnote", name := "checkRoomFor", desc := "(I)V" } : Jvm.MethodName) prog_1_method_53_code (2 : Nat) (Option.none : Option Jvm.ClassFile.FieldType)) ∈ GW := GW_2 0 (List.mem_of_getElem? (i := 232) rfl) rfl
theorem mw474 : (Jvm.Cond.methodLink "Marginnote" (117 : Nat) ({ cls := "Marginnote", name := "make", desc := "(LMarginnote$Site;IIIIZ)I" } : Jvm.MethodName)) ∈ GW := GW_2 0 (List.mem_of_getElem? (i := 234) rfl) rfl
theorem mw476 : (Jvm.Cond.instanceMethod ({ cls := "Marginnote", name := "make", desc := "(LMarginnote$Site;IIIIZ)I" } : Jvm.MethodName)) ∈ GW := GW_2 0 (List.mem_of_getElem? (i := 236) rfl) rfl
theorem mw477 : (Jvm.Cond.code ({ cls := "Marginnote", name := "make", desc := "(LMarginnote$Site;IIIIZ)I" } : Jvm.MethodName) prog_1_method_59_code (9 : Nat) (Option.some Jvm.ClassFile.FieldType.int)) ∈ GW := GW_2 0 (List.mem_of_getElem? (i := 237) rfl) rfl
theorem mw478 : (Jvm.Cond.methodLink "Marginnote" (365 : Nat) ({ cls := "Marginnote$Book", name := "enter", desc := "(IIIIIIZ)I" } : Jvm.MethodName)) ∈ GW := GW_2 0 (List.mem_of_getElem? (i := 238) rfl) rfl
theorem mw479 : (Jvm.Cond.instanceMethod ({ cls := "Marginnote$Book", name := "enter", desc := "(IIIIIIZ)I" } : Jvm.MethodName)) ∈ GW := GW_2 0 (List.mem_of_getElem? (i := 239) rfl) rfl
theorem mw480 : (Jvm.Cond.selects "Marginnote$Book" ({ cls := "Marginnote$Book", name := "enter", desc := "(IIIIIIZ)I" } : Jvm.MethodName) ({ cls := "Marginnote$Book", name := "enter", desc := "(IIIIIIZ)I" } : Jvm.MethodName)) ∈ GW := GW_3 0 (List.mem_of_getElem? (i := 0) rfl) rfl
theorem mw481 : (Jvm.Cond.code ({ cls := "Marginnote$Book", name := "enter", desc := "(IIIIIIZ)I" } : Jvm.MethodName) prog_3_method_2_code (9 : Nat) (Option.some Jvm.ClassFile.FieldType.int)) ∈ GW := GW_3 0 (List.mem_of_getElem? (i := 1) rfl) rfl
theorem mw482 : (Jvm.Cond.methodLink "Marginnote$Book" (44 : Nat) ({ cls := "Marginnote$Book", name := "putInOrder", desc := "(I)V" } : Jvm.MethodName)) ∈ GW := GW_3 0 (List.mem_of_getElem? (i := 2) rfl) rfl
theorem mw484 : (Jvm.Cond.instanceMethod ({ cls := "Marginnote$Book", name := "putInOrder", desc := "(I)V" } : Jvm.MethodName)) ∈ GW := GW_3 0 (List.mem_of_getElem? (i := 4) rfl) rfl
theorem mw485 : (Jvm.Cond.code ({ cls := "Marginnote$Book", name := "putInOrder", desc := "(I)V" } : Jvm.MethodName) prog_3_method_3_code (3 : Nat) (Option.none : Option Jvm.ClassFile.FieldType)) ∈ GW := GW_3 0 (List.mem_of_getElem? (i := 5) rfl) rfl
theorem mw486 : (Jvm.Cond.methodLink "Marginnote$Book" (48 : Nat) ({ cls := "Marginnote$Book", name := "comesBefore", desc := "(II)Z" } : Jvm.MethodName)) ∈ GW := GW_3 0 (List.mem_of_getElem? (i := 6) rfl) rfl
theorem mw488 : (Jvm.Cond.instanceMethod ({ cls := "Marginnote$Book", name := "comesBefore", desc := "(II)Z" } : Jvm.MethodName)) ∈ GW := GW_3 0 (List.mem_of_getElem? (i := 8) rfl) rfl
theorem mw489 : (Jvm.Cond.code ({ cls := "Marginnote$Book", name := "comesBefore", desc := "(II)Z" } : Jvm.MethodName) prog_3_method_4_code (3 : Nat) (Option.some Jvm.ClassFile.FieldType.boolean)) ∈ GW := GW_3 0 (List.mem_of_getElem? (i := 9) rfl) rfl
theorem mw490 : (Jvm.Cond.methodLink "Marginnote$Book" (52 : Nat) ({ cls := "Marginnote$Book", name := "countOf", desc := "(I)I" } : Jvm.MethodName)) ∈ GW := GW_3 0 (List.mem_of_getElem? (i := 10) rfl) rfl
theorem mw491 : (Jvm.Cond.instanceMethod ({ cls := "Marginnote$Book", name := "countOf", desc := "(I)I" } : Jvm.MethodName)) ∈ GW := GW_3 0 (List.mem_of_getElem? (i := 11) rfl) rfl
theorem mw492 : (Jvm.Cond.selects "Marginnote$Book" ({ cls := "Marginnote$Book", name := "countOf", desc := "(I)I" } : Jvm.MethodName) ({ cls := "Marginnote$Book", name := "countOf", desc := "(I)I" } : Jvm.MethodName)) ∈ GW := GW_3 0 (List.mem_of_getElem? (i := 12) rfl) rfl
theorem mw493 : (Jvm.Cond.code ({ cls := "Marginnote$Book", name := "countOf", desc := "(I)I" } : Jvm.MethodName) prog_3_method_7_code (2 : Nat) (Option.some Jvm.ClassFile.FieldType.int)) ∈ GW := GW_3 0 (List.mem_of_getElem? (i := 13) rfl) rfl
theorem mw494 : (Jvm.Cond.methodLink "Marginnote$Book" (56 : Nat) ({ cls := "Marginnote$Book", name := "siteOf", desc := "(I)I" } : Jvm.MethodName)) ∈ GW := GW_3 0 (List.mem_of_getElem? (i := 14) rfl) rfl
theorem mw495 : (Jvm.Cond.methodLink "Marginnote" (215 : Nat) ({ cls := "Marginnote$Site", name := "take", desc := "(II)V" } : Jvm.MethodName)) ∈ GW := GW_3 0 (List.mem_of_getElem? (i := 15) rfl) rfl
theorem mw496 : (Jvm.Cond.instanceMethod ({ cls := "Marginnote$Site", name := "take", desc := "(II)V" } : Jvm.MethodName)) ∈ GW := GW_3 0 (List.mem_of_getElem? (i := 16) rfl) rfl
theorem mw497 : (Jvm.Cond.selects "Marginnote$Site" ({ cls := "Marginnote$Site", name := "take", desc := "(II)V" } : Jvm.MethodName) ({ cls := "Marginnote$Site", name := "take", desc := "(II)V" } : Jvm.MethodName)) ∈ GW := GW_3 0 (List.mem_of_getElem? (i := 17) rfl) rfl
theorem mw498 : (Jvm.Cond.code ({ cls := "Marginnote$Site", name := "take", desc := "(II)V" } : Jvm.MethodName) prog_6_method_2_code (3 : Nat) (Option.none : Option Jvm.ClassFile.FieldType)) ∈ GW := GW_3 0 (List.mem_of_getElem? (i := 18) rfl) rfl
theorem mw499 : (Jvm.Cond.methodLink "Marginnote$Site" (48 : Nat) ({ cls := "Marginnote$ActSet", name := "contains", desc := "(I)Z" } : Jvm.MethodName)) ∈ GW := GW_3 0 (List.mem_of_getElem? (i := 19) rfl) rfl
theorem mw500 : (Jvm.Cond.methodLink "Marginnote$Site" (55 : Nat) ({ cls := "Marginnote$ActSet", name := "add", desc := "(I)V" } : Jvm.MethodName)) ∈ GW := GW_3 0 (List.mem_of_getElem? (i := 20) rfl) rfl
theorem mw501 : (Jvm.Cond.instanceMethod ({ cls := "Marginnote$ActSet", name := "add", desc := "(I)V" } : Jvm.MethodName)) ∈ GW := GW_3 0 (List.mem_of_getElem? (i := 21) rfl) rfl
theorem mw502 : (Jvm.Cond.selects "Marginnote$ActSet" ({ cls := "Marginnote$ActSet", name := "add", desc := "(I)V" } : Jvm.MethodName) ({ cls := "Marginnote$ActSet", name := "add", desc := "(I)V" } : Jvm.MethodName)) ∈ GW := GW_3 0 (List.mem_of_getElem? (i := 22) rfl) rfl
theorem mw503 : (Jvm.Cond.code ({ cls := "Marginnote$ActSet", name := "add", desc := "(I)V" } : Jvm.MethodName) prog_2_method_3_code (2 : Nat) (Option.none : Option Jvm.ClassFile.FieldType)) ∈ GW := GW_3 0 (List.mem_of_getElem? (i := 23) rfl) rfl
theorem mw504 : (Jvm.Cond.methodLink "Marginnote$Site" (62 : Nat) ({ cls := "java/lang/Math", name := "max", desc := "(II)I" } : Jvm.MethodName)) ∈ GW := GW_3 0 (List.mem_of_getElem? (i := 24) rfl) rfl
theorem mw505 : (Jvm.Cond.static ({ cls := "java/lang/Math", name := "max", desc := "(II)I" } : Jvm.MethodName)) ∈ GW := GW_3 0 (List.mem_of_getElem? (i := 25) rfl) rfl
theorem mw506 : (Jvm.Cond.code ({ cls := "java/lang/Math", name := "max", desc := "(II)I" } : Jvm.MethodName) prog_14_method_65_code (2 : Nat) (Option.some Jvm.ClassFile.FieldType.int)) ∈ GW := GW_3 0 (List.mem_of_getElem? (i := 26) rfl) rfl
theorem mw507 : (Jvm.Cond.methodLink "Marginnote" (369 : Nat) ({ cls := "Marginnote$Paper", name := "perform", desc := "(I)V" } : Jvm.MethodName)) ∈ GW := GW_3 0 (List.mem_of_getElem? (i := 27) rfl) rfl
theorem mw508 : (Jvm.Cond.methodLink "MarginnoteLaw" (76 : Nat) ({ cls := "Marginnote", name := "split", desc := "(I)I" } : Jvm.MethodName)) ∈ GW := GW_3 0 (List.mem_of_getElem? (i := 28) rfl) rfl
theorem mw509 : (Jvm.Cond.instanceMethod ({ cls := "Marginnote", name := "split", desc := "(I)I" } : Jvm.MethodName)) ∈ GW := GW_3 0 (List.mem_of_getElem? (i := 29) rfl) rfl
theorem mw510 : (Jvm.Cond.selects "Marginnote" ({ cls := "Marginnote", name := "split", desc := "(I)I" } : Jvm.MethodName) ({ cls := "Marginnote", name := "split", desc := "(I)I" } : Jvm.MethodName)) ∈ GW := GW_3 0 (List.mem_of_getElem? (i := 30) rfl) rfl
theorem mw511 : (Jvm.Cond.code ({ cls := "Marginnote", name := "split", desc := "(I)I" } : Jvm.MethodName) prog_1_method_3_code (3 : Nat) (Option.some Jvm.ClassFile.FieldType.int)) ∈ GW := GW_3 0 (List.mem_of_getElem? (i := 31) rfl) rfl
theorem mw512 : (Jvm.Cond.methodLink "MarginnoteLaw" (79 : Nat) ({ cls := "Marginnote", name := "erase", desc := "(I)I" } : Jvm.MethodName)) ∈ GW := GW_3 0 (List.mem_of_getElem? (i := 32) rfl) rfl
theorem mw513 : (Jvm.Cond.instanceMethod ({ cls := "Marginnote", name := "erase", desc := "(I)I" } : Jvm.MethodName)) ∈ GW := GW_3 0 (List.mem_of_getElem? (i := 33) rfl) rfl
theorem mw514 : (Jvm.Cond.selects "Marginnote" ({ cls := "Marginnote", name := "erase", desc := "(I)I" } : Jvm.MethodName) ({ cls := "Marginnote", name := "erase", desc := "(I)I" } : Jvm.MethodName)) ∈ GW := GW_3 0 (List.mem_of_getElem? (i := 34) rfl) rfl
theorem mw515 : (Jvm.Cond.code ({ cls := "Marginnote", name := "erase", desc := "(I)I" } : Jvm.MethodName) prog_1_method_4_code (10 : Nat) (Option.some Jvm.ClassFile.FieldType.int)) ∈ GW := GW_3 0 (List.mem_of_getElem? (i := 35) rfl) rfl
theorem mw516 : (Jvm.Cond.methodLink "Marginnote" (84 : Nat) ({ cls := "Marginnote$Paper", name := "seenThrough", desc := "(I)I" } : Jvm.MethodName)) ∈ GW := GW_3 0 (List.mem_of_getElem? (i := 36) rfl) rfl
theorem mw517 : (Jvm.Cond.instanceMethod ({ cls := "Marginnote$Paper", name := "seenThrough", desc := "(I)I" } : Jvm.MethodName)) ∈ GW := GW_3 0 (List.mem_of_getElem? (i := 37) rfl) rfl
theorem mw518 : (Jvm.Cond.selects "Marginnote$Paper" ({ cls := "Marginnote$Paper", name := "seenThrough", desc := "(I)I" } : Jvm.MethodName) ({ cls := "Marginnote$Paper", name := "seenThrough", desc := "(I)I" } : Jvm.MethodName)) ∈ GW := GW_3 0 (List.mem_of_getElem? (i := 38) rfl) rfl
theorem mw519 : (Jvm.Cond.code ({ cls := "Marginnote$Paper", name := "seenThrough", desc := "(I)I" } : Jvm.MethodName) prog_5_method_31_code (4 : Nat) (Option.some Jvm.ClassFile.FieldType.int)) ∈ GW := GW_3 0 (List.mem_of_getElem? (i := 39) rfl) rfl
theorem mw520 : (Jvm.Cond.methodLink "Marginnote" (91 : Nat) ({ cls := "java/lang/Math", name := "min", desc := "(II)I" } : Jvm.MethodName)) ∈ GW := GW_3 0 (List.mem_of_getElem? (i := 40) rfl) rfl
theorem mw521 : (Jvm.Cond.static ({ cls := "java/lang/Math", name := "min", desc := "(II)I" } : Jvm.MethodName)) ∈ GW := GW_3 0 (List.mem_of_getElem? (i := 41) rfl) rfl
theorem mw522 : (Jvm.Cond.code ({ cls := "java/lang/Math", name := "min", desc := "(II)I" } : Jvm.MethodName) prog_14_method_69_code (2 : Nat) (Option.some Jvm.ClassFile.FieldType.int)) ∈ GW := GW_3 0 (List.mem_of_getElem? (i := 42) rfl) rfl
theorem mw523 : (Jvm.Cond.methodLink "Marginnote" (97 : Nat) ({ cls := "java/lang/Math", name := "max", desc := "(II)I" } : Jvm.MethodName)) ∈ GW := GW_3 0 (List.mem_of_getElem? (i := 43) rfl) rfl
theorem mw525 : (Jvm.Cond.methodLink "Marginnote" (109 : Nat) ({ cls := "Marginnote$Paper", name := "pickSeen", desc := "(II[I)I" } : Jvm.MethodName)) ∈ GW := GW_3 0 (List.mem_of_getElem? (i := 45) rfl) rfl
theorem mw526 : (Jvm.Cond.instanceMethod ({ cls := "Marginnote$Paper", name := "pickSeen", desc := "(II[I)I" } : Jvm.MethodName)) ∈ GW := GW_3 0 (List.mem_of_getElem? (i := 46) rfl) rfl
theorem mw527 : (Jvm.Cond.selects "Marginnote$Paper" ({ cls := "Marginnote$Paper", name := "pickSeen", desc := "(II[I)I" } : Jvm.MethodName) ({ cls := "Marginnote$Paper", name := "pickSeen", desc := "(II[I)I" } : Jvm.MethodName)) ∈ GW := GW_3 0 (List.mem_of_getElem? (i := 47) rfl) rfl
theorem mw528 : (Jvm.Cond.code ({ cls := "Marginnote$Paper", name := "pickSeen", desc := "(II[I)I" } : Jvm.MethodName) prog_5_method_32_code (7 : Nat) (Option.some Jvm.ClassFile.FieldType.int)) ∈ GW := GW_3 0 (List.mem_of_getElem? (i := 48) rfl) rfl
theorem mw529 : (Jvm.Cond.methodLink "MarginnoteLaw" (86 : Nat) ({ cls := "Marginnote", name := "moveTo", desc := "(II)I" } : Jvm.MethodName)) ∈ GW := GW_3 0 (List.mem_of_getElem? (i := 49) rfl) rfl
theorem mw530 : (Jvm.Cond.instanceMethod ({ cls := "Marginnote", name := "moveTo", desc := "(II)I" } : Jvm.MethodName)) ∈ GW := GW_3 0 (List.mem_of_getElem? (i := 50) rfl) rfl
theorem mw531 : (Jvm.Cond.selects "Marginnote" ({ cls := "Marginnote", name := "moveTo", desc := "(II)I" } : Jvm.MethodName) ({ cls := "Marginnote", name := "moveTo", desc := "(II)I" } : Jvm.MethodName)) ∈ GW := GW_3 0 (List.mem_of_getElem? (i := 51) rfl) rfl
theorem mw532 : (Jvm.Cond.code ({ cls := "Marginnote", name := "moveTo", desc := "(II)I" } : Jvm.MethodName) prog_1_method_5_code (7 : Nat) (Option.some Jvm.ClassFile.FieldType.int)) ∈ GW := GW_3 0 (List.mem_of_getElem? (i := 52) rfl) rfl
theorem mw533 : (Jvm.Cond.methodLink "Marginnote" (121 : Nat) ({ cls := "Marginnote", name := "standAt", desc := "(LMarginnote$Paper;I)I" } : Jvm.MethodName)) ∈ GW := GW_3 0 (List.mem_of_getElem? (i := 53) rfl) rfl
theorem mw534 : (Jvm.Cond.static ({ cls := "Marginnote", name := "standAt", desc := "(LMarginnote$Paper;I)I" } : Jvm.MethodName)) ∈ GW := GW_3 0 (List.mem_of_getElem? (i := 54) rfl) rfl
theorem mw535 : (Jvm.Cond.code ({ cls := "Marginnote", name := "standAt", desc := "(LMarginnote$Paper;I)I" } : Jvm.MethodName) prog_1_method_49_code (2 : Nat) (Option.some Jvm.ClassFile.FieldType.int)) ∈ GW := GW_3 0 (List.mem_of_getElem? (i := 55) rfl) rfl
theorem mw536 : (Jvm.Cond.methodLink "Marginnote" (276 : Nat) ({ cls := "Marginnote", name := "elementAt", desc := "(LMarginnote$Paper;I)I" } : Jvm.MethodName)) ∈ GW := GW_3 0 (List.mem_of_getElem? (i := 56) rfl) rfl
theorem mw537 : (Jvm.Cond.static ({ cls := "Marginnote", name := "elementAt", desc := "(LMarginnote$Paper;I)I" } : Jvm.MethodName)) ∈ GW := GW_3 0 (List.mem_of_getElem? (i := 57) rfl) rfl
theorem mw538 : (Jvm.Cond.code ({ cls := "Marginnote", name := "elementAt", desc := "(LMarginnote$Paper;I)I" } : Jvm.MethodName) prog_1_method_48_code (3 : Nat) (Option.some Jvm.ClassFile.FieldType.int)) ∈ GW := GW_3 0 (List.mem_of_getElem? (i := 58) rfl) rfl
theorem mw539 : (Jvm.Cond.methodLink "Marginnote" (334 : Nat) ({ cls := "Marginnote$Paper", name := "seenAt", desc := "(I)I" } : Jvm.MethodName)) ∈ GW := GW_3 0 (List.mem_of_getElem? (i := 59) rfl) rfl
theorem mw540 : (Jvm.Cond.instanceMethod ({ cls := "Marginnote$Paper", name := "seenAt", desc := "(I)I" } : Jvm.MethodName)) ∈ GW := GW_3 0 (List.mem_of_getElem? (i := 60) rfl) rfl
theorem mw541 : (Jvm.Cond.selects "Marginnote$Paper" ({ cls := "Marginnote$Paper", name := "seenAt", desc := "(I)I" } : Jvm.MethodName) ({ cls := "Marginnote$Paper", name := "seenAt", desc := "(I)I" } : Jvm.MethodName)) ∈ GW := GW_3 0 (List.mem_of_getElem? (i := 61) rfl) rfl
theorem mw542 : (Jvm.Cond.code ({ cls := "Marginnote$Paper", name := "seenAt", desc := "(I)I" } : Jvm.MethodName) prog_5_method_30_code (4 : Nat) (Option.some Jvm.ClassFile.FieldType.int)) ∈ GW := GW_3 0 (List.mem_of_getElem? (i := 62) rfl) rfl
theorem mw544 : (Jvm.Cond.methodLink "MarginnoteLaw" (89 : Nat) ({ cls := "Marginnote", name := "extend", desc := "(II)I" } : Jvm.MethodName)) ∈ GW := GW_3 0 (List.mem_of_getElem? (i := 64) rfl) rfl
theorem mw545 : (Jvm.Cond.instanceMethod ({ cls := "Marginnote", name := "extend", desc := "(II)I" } : Jvm.MethodName)) ∈ GW := GW_3 0 (List.mem_of_getElem? (i := 65) rfl) rfl
theorem mw546 : (Jvm.Cond.selects "Marginnote" ({ cls := "Marginnote", name := "extend", desc := "(II)I" } : Jvm.MethodName) ({ cls := "Marginnote", name := "extend", desc := "(II)I" } : Jvm.MethodName)) ∈ GW := GW_3 0 (List.mem_of_getElem? (i := 66) rfl) rfl
theorem mw547 : (Jvm.Cond.code ({ cls := "Marginnote", name := "extend", desc := "(II)I" } : Jvm.MethodName) prog_1_method_6_code (6 : Nat) (Option.some Jvm.ClassFile.FieldType.int)) ∈ GW := GW_3 0 (List.mem_of_getElem? (i := 67) rfl) rfl
theorem mw548 : (Jvm.Cond.methodLink "MarginnoteLaw" (92 : Nat) ({ cls := "Marginnote", name := "mark", desc := "(IIZ)I" } : Jvm.MethodName)) ∈ GW := GW_3 0 (List.mem_of_getElem? (i := 68) rfl) rfl
theorem mw549 : (Jvm.Cond.instanceMethod ({ cls := "Marginnote", name := "mark", desc := "(IIZ)I" } : Jvm.MethodName)) ∈ GW := GW_3 0 (List.mem_of_getElem? (i := 69) rfl) rfl
theorem mw550 : (Jvm.Cond.selects "Marginnote" ({ cls := "Marginnote", name := "mark", desc := "(IIZ)I" } : Jvm.MethodName) ({ cls := "Marginnote", name := "mark", desc := "(IIZ)I" } : Jvm.MethodName)) ∈ GW := GW_3 0 (List.mem_of_getElem? (i := 70) rfl) rfl
theorem mw551 : (Jvm.Cond.code ({ cls := "Marginnote", name := "mark", desc := "(IIZ)I" } : Jvm.MethodName) prog_1_method_7_code (5 : Nat) (Option.some Jvm.ClassFile.FieldType.int)) ∈ GW := GW_3 0 (List.mem_of_getElem? (i := 71) rfl) rfl
theorem mw552 : (Jvm.Cond.methodLink "Marginnote" (125 : Nat) ({ cls := "Marginnote", name := "checkMark", desc := "(I)V" } : Jvm.MethodName)) ∈ GW := GW_3 0 (List.mem_of_getElem? (i := 72) rfl) rfl
theorem mw553 : (Jvm.Cond.static ({ cls := "Marginnote", name := "checkMark", desc := "(I)V" } : Jvm.MethodName)) ∈ GW := GW_3 0 (List.mem_of_getElem? (i := 73) rfl) rfl
theorem mw554 : (Jvm.Cond.code ({ cls := "Marginnote", name := "checkMark", desc := "(I)V" } : Jvm.MethodName) prog_1_method_52_code (1 : Nat) (Option.none : Option Jvm.ClassFile.FieldType)) ∈ GW := GW_3 0 (List.mem_of_getElem? (i := 74) rfl) rfl
theorem mw556 : (Jvm.Cond.methodLink "Marginnote" (128 : Nat) ({ cls := "Marginnote", name := "writeOnSelection", desc := "(LMarginnote$Site;LMarginnote$Paper;IIZ)I" } : Jvm.MethodName)) ∈ GW := GW_3 0 (List.mem_of_getElem? (i := 76) rfl) rfl
theorem mw558 : (Jvm.Cond.instanceMethod ({ cls := "Marginnote", name := "writeOnSelection", desc := "(LMarginnote$Site;LMarginnote$Paper;IIZ)I" } : Jvm.MethodName)) ∈ GW := GW_3 0 (List.mem_of_getElem? (i := 78) rfl) rfl
theorem mw559 : (Jvm.Cond.code ({ cls := "Marginnote", name := "writeOnSelection", desc := "(LMarginnote$Site;LMarginnote$Paper;IIZ)I" } : Jvm.MethodName) prog_1_method_58_code (10 : Nat) (Option.some Jvm.ClassFile.FieldType.int)) ∈ GW := GW_3 0 (List.mem_of_getElem? (i := 79) rfl) rfl
theorem mw561 : (Jvm.Cond.methodLink "MarginnoteLaw" (96 : Nat) ({ cls := "Marginnote", name := "comment", desc := "(I)I" } : Jvm.MethodName)) ∈ GW := GW_3 0 (List.mem_of_getElem? (i := 81) rfl) rfl
theorem mw562 : (Jvm.Cond.instanceMethod ({ cls := "Marginnote", name := "comment", desc := "(I)I" } : Jvm.MethodName)) ∈ GW := GW_3 0 (List.mem_of_getElem? (i := 82) rfl) rfl
theorem mw563 : (Jvm.Cond.selects "Marginnote" ({ cls := "Marginnote", name := "comment", desc := "(I)I" } : Jvm.MethodName) ({ cls := "Marginnote", name := "comment", desc := "(I)I" } : Jvm.MethodName)) ∈ GW := GW_3 0 (List.mem_of_getElem? (i := 83) rfl) rfl
theorem mw564 : (Jvm.Cond.code ({ cls := "Marginnote", name := "comment", desc := "(I)I" } : Jvm.MethodName) prog_1_method_8_code (3 : Nat) (Option.some Jvm.ClassFile.FieldType.int)) ∈ GW := GW_3 0 (List.mem_of_getElem? (i := 84) rfl) rfl
theorem mw566 : (Jvm.Cond.methodLink "MarginnoteLaw" (136 : Nat) ({ cls := "Marginnote", name := "setKind", desc := "(III)I" } : Jvm.MethodName)) ∈ GW := GW_3 0 (List.mem_of_getElem? (i := 86) rfl) rfl
theorem mw567 : (Jvm.Cond.instanceMethod ({ cls := "Marginnote", name := "setKind", desc := "(III)I" } : Jvm.MethodName)) ∈ GW := GW_3 0 (List.mem_of_getElem? (i := 87) rfl) rfl
theorem mw568 : (Jvm.Cond.selects "Marginnote" ({ cls := "Marginnote", name := "setKind", desc := "(III)I" } : Jvm.MethodName) ({ cls := "Marginnote", name := "setKind", desc := "(III)I" } : Jvm.MethodName)) ∈ GW := GW_3 0 (List.mem_of_getElem? (i := 88) rfl) rfl
theorem mw569 : (Jvm.Cond.code ({ cls := "Marginnote", name := "setKind", desc := "(III)I" } : Jvm.MethodName) prog_1_method_9_code (7 : Nat) (Option.some Jvm.ClassFile.FieldType.int)) ∈ GW := GW_3 0 (List.mem_of_getElem? (i := 89) rfl) rfl
theorem mw570 : (Jvm.Cond.methodLink "Marginnote" (137 : Nat) ({ cls := "Marginnote", name := "blockAt", desc := "(LMarginnote$Paper;I)I" } : Jvm.MethodName)) ∈ GW := GW_3 0 (List.mem_of_getElem? (i := 90) rfl) rfl
theorem mw571 : (Jvm.Cond.static ({ cls := "Marginnote", name := "blockAt", desc := "(LMarginnote$Paper;I)I" } : Jvm.MethodName)) ∈ GW := GW_3 0 (List.mem_of_getElem? (i := 91) rfl) rfl
theorem mw572 : (Jvm.Cond.code ({ cls := "Marginnote", name := "blockAt", desc := "(LMarginnote$Paper;I)I" } : Jvm.MethodName) prog_1_method_50_code (3 : Nat) (Option.some Jvm.ClassFile.FieldType.int)) ∈ GW := GW_3 0 (List.mem_of_getElem? (i := 92) rfl) rfl
theorem mw573 : (Jvm.Cond.methodLink "Marginnote" (339 : Nat) ({ cls := "Marginnote$Paper", name := "shownBlock", desc := "(I)I" } : Jvm.MethodName)) ∈ GW := GW_3 0 (List.mem_of_getElem? (i := 93) rfl) rfl
theorem mw574 : (Jvm.Cond.instanceMethod ({ cls := "Marginnote$Paper", name := "shownBlock", desc := "(I)I" } : Jvm.MethodName)) ∈ GW := GW_3 0 (List.mem_of_getElem? (i := 94) rfl) rfl
theorem mw575 : (Jvm.Cond.selects "Marginnote$Paper" ({ cls := "Marginnote$Paper", name := "shownBlock", desc := "(I)I" } : Jvm.MethodName) ({ cls := "Marginnote$Paper", name := "shownBlock", desc := "(I)I" } : Jvm.MethodName)) ∈ GW := GW_3 0 (List.mem_of_getElem? (i := 95) rfl) rfl
theorem mw576 : (Jvm.Cond.code ({ cls := "Marginnote$Paper", name := "shownBlock", desc := "(I)I" } : Jvm.MethodName) prog_5_method_42_code (4 : Nat) (Option.some Jvm.ClassFile.FieldType.int)) ∈ GW := GW_3 0 (List.mem_of_getElem? (i := 96) rfl) rfl
theorem mw579 : (Jvm.Cond.methodLink "Marginnote" (142 : Nat) ({ cls := "Marginnote", name := "checkMayWriteIn", desc := "(LMarginnote$Paper;LMarginnote$Site;I)V" } : Jvm.MethodName)) ∈ GW := GW_3 0 (List.mem_of_getElem? (i := 99) rfl) rfl
theorem mw581 : (Jvm.Cond.instanceMethod ({ cls := "Marginnote", name := "checkMayWriteIn", desc := "(LMarginnote$Paper;LMarginnote$Site;I)V" } : Jvm.MethodName)) ∈ GW := GW_3 0 (List.mem_of_getElem? (i := 101) rfl) rfl
theorem mw582 : (Jvm.Cond.code ({ cls := "Marginnote", name := "checkMayWriteIn", desc := "(LMarginnote$Paper;LMarginnote$Site;I)V" } : Jvm.MethodName) prog_1_method_54_code (4 : Nat) (Option.none : Option Jvm.ClassFile.FieldType)) ∈ GW := GW_3 0 (List.mem_of_getElem? (i := 102) rfl) rfl
theorem mw584 : (Jvm.Cond.methodLink "MarginnoteLaw" (142 : Nat) ({ cls := "Marginnote", name := "nest", desc := "(III)I" } : Jvm.MethodName)) ∈ GW := GW_3 0 (List.mem_of_getElem? (i := 104) rfl) rfl
theorem mw585 : (Jvm.Cond.instanceMethod ({ cls := "Marginnote", name := "nest", desc := "(III)I" } : Jvm.MethodName)) ∈ GW := GW_3 0 (List.mem_of_getElem? (i := 105) rfl) rfl
theorem mw586 : (Jvm.Cond.selects "Marginnote" ({ cls := "Marginnote", name := "nest", desc := "(III)I" } : Jvm.MethodName) ({ cls := "Marginnote", name := "nest", desc := "(III)I" } : Jvm.MethodName)) ∈ GW := GW_3 0 (List.mem_of_getElem? (i := 106) rfl) rfl
theorem mw587 : (Jvm.Cond.code ({ cls := "Marginnote", name := "nest", desc := "(III)I" } : Jvm.MethodName) prog_1_method_10_code (8 : Nat) (Option.some Jvm.ClassFile.FieldType.int)) ∈ GW := GW_3 0 (List.mem_of_getElem? (i := 107) rfl) rfl
theorem mw588 : (Jvm.Cond.methodLink "MarginnoteLaw" (125 : Nat) ({ cls := "Marginnote", name := "propose", desc := "(IZ)Z" } : Jvm.MethodName)) ∈ GW := GW_3 0 (List.mem_of_getElem? (i := 108) rfl) rfl
theorem mw589 : (Jvm.Cond.instanceMethod ({ cls := "Marginnote", name := "propose", desc := "(IZ)Z" } : Jvm.MethodName)) ∈ GW := GW_3 0 (List.mem_of_getElem? (i := 109) rfl) rfl
theorem mw590 : (Jvm.Cond.selects "Marginnote" ({ cls := "Marginnote", name := "propose", desc := "(IZ)Z" } : Jvm.MethodName) ({ cls := "Marginnote", name := "propose", desc := "(IZ)Z" } : Jvm.MethodName)) ∈ GW := GW_3 0 (List.mem_of_getElem? (i := 110) rfl) rfl
theorem mw591 : (Jvm.Cond.code ({ cls := "Marginnote", name := "propose", desc := "(IZ)Z" } : Jvm.MethodName) prog_1_method_11_code (5 : Nat) (Option.some Jvm.ClassFile.FieldType.boolean)) ∈ GW := GW_3 0 (List.mem_of_getElem? (i := 111) rfl) rfl
theorem mw592 : (Jvm.Cond.methodLink "MarginnoteLaw" (133 : Nat) ({ cls := "Marginnote", name := "decide", desc := "(IIZ)I" } : Jvm.MethodName)) ∈ GW := GW_3 0 (List.mem_of_getElem? (i := 112) rfl) rfl
theorem mw593 : (Jvm.Cond.instanceMethod ({ cls := "Marginnote", name := "decide", desc := "(IIZ)I" } : Jvm.MethodName)) ∈ GW := GW_3 0 (List.mem_of_getElem? (i := 113) rfl) rfl
theorem mw594 : (Jvm.Cond.selects "Marginnote" ({ cls := "Marginnote", name := "decide", desc := "(IIZ)I" } : Jvm.MethodName) ({ cls := "Marginnote", name := "decide", desc := "(IIZ)I" } : Jvm.MethodName)) ∈ GW := GW_3 0 (List.mem_of_getElem? (i := 114) rfl) rfl
theorem mw595 : (Jvm.Cond.code ({ cls := "Marginnote", name := "decide", desc := "(IIZ)I" } : Jvm.MethodName) prog_1_method_12_code (5 : Nat) (Option.some Jvm.ClassFile.FieldType.int)) ∈ GW := GW_3 0 (List.mem_of_getElem? (i := 115) rfl) rfl
theorem mw596 : (Jvm.Cond.methodLink "Marginnote" (146 : Nat) ({ cls := "Marginnote", name := "checkHeld", desc := "(LMarginnote$Site;I)V" } : Jvm.MethodName)) ∈ GW := GW_3 0 (List.mem_of_getElem? (i := 116) rfl) rfl
theorem mw597 : (Jvm.Cond.static ({ cls := "Marginnote", name := "checkHeld", desc := "(LMarginnote$Site;I)V" } : Jvm.MethodName)) ∈ GW := GW_3 0 (List.mem_of_getElem? (i := 117) rfl) rfl
theorem mw598 : (Jvm.Cond.code ({ cls := "Marginnote", name := "checkHeld", desc := "(LMarginnote$Site;I)V" } : Jvm.MethodName) prog_1_method_51_code (2 : Nat) (Option.none : Option Jvm.ClassFile.FieldType)) ∈ GW := GW_3 0 (List.mem_of_getElem? (i := 118) rfl) rfl
theorem mw599 : (Jvm.Cond.methodLink "Marginnote" (208 : Nat) ({ cls := "Marginnote$ActSet", name := "contains", desc := "(I)Z" } : Jvm.MethodName)) ∈ GW := GW_3 0 (List.mem_of_getElem? (i := 119) rfl) rfl
theorem mw601 : (Jvm.Cond.methodLink "Marginnote" (153 : Nat) ({ cls := "Marginnote$Paper", name := "mayDecide", desc := "(II)Z" } : Jvm.MethodName)) ∈ GW := GW_3 0 (List.mem_of_getElem? (i := 121) rfl) rfl
theorem mw602 : (Jvm.Cond.instanceMethod ({ cls := "Marginnote$Paper", name := "mayDecide", desc := "(II)Z" } : Jvm.MethodName)) ∈ GW := GW_3 0 (List.mem_of_getElem? (i := 122) rfl) rfl
theorem mw603 : (Jvm.Cond.selects "Marginnote$Paper" ({ cls := "Marginnote$Paper", name := "mayDecide", desc := "(II)Z" } : Jvm.MethodName) ({ cls := "Marginnote$Paper", name := "mayDecide", desc := "(II)Z" } : Jvm.MethodName)) ∈ GW := GW_3 0 (List.mem_of_getElem? (i := 123) rfl) rfl
theorem mw604 : (Jvm.Cond.code ({ cls := "Marginnote$Paper", name := "mayDecide", desc := "(II)Z" } : Jvm.MethodName) prog_5_method_17_code (3 : Nat) (Option.some Jvm.ClassFile.FieldType.boolean)) ∈ GW := GW_3 0 (List.mem_of_getElem? (i := 124) rfl) rfl
theorem mw606 : (Jvm.Cond.methodLink "MarginnoteLaw" (129 : Nat) ({ cls := "Marginnote", name := "allow", desc := "(III)I" } : Jvm.MethodName)) ∈ GW := GW_3 0 (List.mem_of_getElem? (i := 126) rfl) rfl
theorem mw607 : (Jvm.Cond.instanceMethod ({ cls := "Marginnote", name := "allow", desc := "(III)I" } : Jvm.MethodName)) ∈ GW := GW_3 0 (List.mem_of_getElem? (i := 127) rfl) rfl
theorem mw608 : (Jvm.Cond.selects "Marginnote" ({ cls := "Marginnote", name := "allow", desc := "(III)I" } : Jvm.MethodName) ({ cls := "Marginnote", name := "allow", desc := "(III)I" } : Jvm.MethodName)) ∈ GW := GW_3 0 (List.mem_of_getElem? (i := 128) rfl) rfl
theorem mw609 : (Jvm.Cond.code ({ cls := "Marginnote", name := "allow", desc := "(III)I" } : Jvm.MethodName) prog_1_method_13_code (6 : Nat) (Option.some Jvm.ClassFile.FieldType.int)) ∈ GW := GW_3 0 (List.mem_of_getElem? (i := 129) rfl) rfl
theorem mw611 : (Jvm.Cond.methodLink "MarginnoteLaw" (112 : Nat) ({ cls := "Marginnote", name := "undo", desc := "(I)I" } : Jvm.MethodName)) ∈ GW := GW_3 0 (List.mem_of_getElem? (i := 131) rfl) rfl
theorem mw612 : (Jvm.Cond.instanceMethod ({ cls := "Marginnote", name := "undo", desc := "(I)I" } : Jvm.MethodName)) ∈ GW := GW_3 0 (List.mem_of_getElem? (i := 132) rfl) rfl
theorem mw613 : (Jvm.Cond.selects "Marginnote" ({ cls := "Marginnote", name := "undo", desc := "(I)I" } : Jvm.MethodName) ({ cls := "Marginnote", name := "undo", desc := "(I)I" } : Jvm.MethodName)) ∈ GW := GW_3 0 (List.mem_of_getElem? (i := 133) rfl) rfl
theorem mw614 : (Jvm.Cond.code ({ cls := "Marginnote", name := "undo", desc := "(I)I" } : Jvm.MethodName) prog_1_method_14_code (4 : Nat) (Option.some Jvm.ClassFile.FieldType.int)) ∈ GW := GW_3 0 (List.mem_of_getElem? (i := 134) rfl) rfl
theorem mw615 : (Jvm.Cond.methodLink "Marginnote" (166 : Nat) ({ cls := "Marginnote", name := "lastNotUndone", desc := "(LMarginnote$Site;LMarginnote$Paper;)I" } : Jvm.MethodName)) ∈ GW := GW_3 0 (List.mem_of_getElem? (i := 135) rfl) rfl
theorem mw617 : (Jvm.Cond.instanceMethod ({ cls := "Marginnote", name := "lastNotUndone", desc := "(LMarginnote$Site;LMarginnote$Paper;)I" } : Jvm.MethodName)) ∈ GW := GW_3 0 (List.mem_of_getElem? (i := 137) rfl) rfl
theorem mw618 : (Jvm.Cond.code ({ cls := "Marginnote", name := "lastNotUndone", desc := "(LMarginnote$Site;LMarginnote$Paper;)I" } : Jvm.MethodName) prog_1_method_60_code (5 : Nat) (Option.some Jvm.ClassFile.FieldType.int)) ∈ GW := GW_3 0 (List.mem_of_getElem? (i := 138) rfl) rfl
theorem mw619 : (Jvm.Cond.methodLink "Marginnote" (202 : Nat) ({ cls := "Marginnote$Book", name := "inOrder", desc := "(I)I" } : Jvm.MethodName)) ∈ GW := GW_3 0 (List.mem_of_getElem? (i := 139) rfl) rfl
theorem mw620 : (Jvm.Cond.methodLink "Marginnote" (372 : Nat) ({ cls := "Marginnote", name := "madeAndHas", desc := "(LMarginnote$Site;I)Z" } : Jvm.MethodName)) ∈ GW := GW_3 0 (List.mem_of_getElem? (i := 140) rfl) rfl
theorem mw622 : (Jvm.Cond.instanceMethod ({ cls := "Marginnote", name := "madeAndHas", desc := "(LMarginnote$Site;I)Z" } : Jvm.MethodName)) ∈ GW := GW_3 0 (List.mem_of_getElem? (i := 142) rfl) rfl
theorem mw623 : (Jvm.Cond.code ({ cls := "Marginnote", name := "madeAndHas", desc := "(LMarginnote$Site;I)Z" } : Jvm.MethodName) prog_1_method_62_code (3 : Nat) (Option.some Jvm.ClassFile.FieldType.boolean)) ∈ GW := GW_3 0 (List.mem_of_getElem? (i := 143) rfl) rfl
theorem mw624 : (Jvm.Cond.methodLink "Marginnote" (324 : Nat) ({ cls := "Marginnote$Book", name := "siteOf", desc := "(I)I" } : Jvm.MethodName)) ∈ GW := GW_3 0 (List.mem_of_getElem? (i := 144) rfl) rfl
theorem mw625 : (Jvm.Cond.methodLink "Marginnote" (376 : Nat) ({ cls := "Marginnote$Book", name := "isUndoable", desc := "(I)Z" } : Jvm.MethodName)) ∈ GW := GW_3 0 (List.mem_of_getElem? (i := 145) rfl) rfl
theorem mw626 : (Jvm.Cond.instanceMethod ({ cls := "Marginnote$Book", name := "isUndoable", desc := "(I)Z" } : Jvm.MethodName)) ∈ GW := GW_3 0 (List.mem_of_getElem? (i := 146) rfl) rfl
theorem mw627 : (Jvm.Cond.selects "Marginnote$Book" ({ cls := "Marginnote$Book", name := "isUndoable", desc := "(I)Z" } : Jvm.MethodName) ({ cls := "Marginnote$Book", name := "isUndoable", desc := "(I)Z" } : Jvm.MethodName)) ∈ GW := GW_3 0 (List.mem_of_getElem? (i := 147) rfl) rfl
theorem mw628 : (Jvm.Cond.code ({ cls := "Marginnote$Book", name := "isUndoable", desc := "(I)Z" } : Jvm.MethodName) prog_3_method_14_code (2 : Nat) (Option.some Jvm.ClassFile.FieldType.boolean)) ∈ GW := GW_3 0 (List.mem_of_getElem? (i := 148) rfl) rfl
theorem mw629 : (Jvm.Cond.methodLink "Marginnote" (327 : Nat) ({ cls := "Marginnote$Paper", name := "wasUndone", desc := "(I)Z" } : Jvm.MethodName)) ∈ GW := GW_3 0 (List.mem_of_getElem? (i := 149) rfl) rfl
theorem mw631 : (Jvm.Cond.methodLink "MarginnoteLaw" (122 : Nat) ({ cls := "Marginnote", name := "redo", desc := "(I)I" } : Jvm.MethodName)) ∈ GW := GW_3 0 (List.mem_of_getElem? (i := 151) rfl) rfl
theorem mw632 : (Jvm.Cond.instanceMethod ({ cls := "Marginnote", name := "redo", desc := "(I)I" } : Jvm.MethodName)) ∈ GW := GW_3 0 (List.mem_of_getElem? (i := 152) rfl) rfl
theorem mw633 : (Jvm.Cond.selects "Marginnote" ({ cls := "Marginnote", name := "redo", desc := "(I)I" } : Jvm.MethodName) ({ cls := "Marginnote", name := "redo", desc := "(I)I" } : Jvm.MethodName)) ∈ GW := GW_3 0 (List.mem_of_getElem? (i := 153) rfl) rfl
theorem mw634 : (Jvm.Cond.code ({ cls := "Marginnote", name := "redo", desc := "(I)I" } : Jvm.MethodName) prog_1_method_15_code (4 : Nat) (Option.some Jvm.ClassFile.FieldType.int)) ∈ GW := GW_3 0 (List.mem_of_getElem? (i := 154) rfl) rfl
theorem mw635 : (Jvm.Cond.methodLink "Marginnote" (172 : Nat) ({ cls := "Marginnote", name := "lastToRedo", desc := "(LMarginnote$Site;LMarginnote$Paper;)I" } : Jvm.MethodName)) ∈ GW := GW_3 0 (List.mem_of_getElem? (i := 155) rfl) rfl
theorem mw637 : (Jvm.Cond.instanceMethod ({ cls := "Marginnote", name := "lastToRedo", desc := "(LMarginnote$Site;LMarginnote$Paper;)I" } : Jvm.MethodName)) ∈ GW := GW_3 0 (List.mem_of_getElem? (i := 157) rfl) rfl
theorem mw638 : (Jvm.Cond.code ({ cls := "Marginnote", name := "lastToRedo", desc := "(LMarginnote$Site;LMarginnote$Paper;)I" } : Jvm.MethodName) prog_1_method_61_code (5 : Nat) (Option.some Jvm.ClassFile.FieldType.int)) ∈ GW := GW_3 0 (List.mem_of_getElem? (i := 158) rfl) rfl
theorem mw639 : (Jvm.Cond.methodLink "Marginnote" (291 : Nat) ({ cls := "Marginnote$Book", name := "kindOf", desc := "(I)I" } : Jvm.MethodName)) ∈ GW := GW_3 0 (List.mem_of_getElem? (i := 159) rfl) rfl
theorem mw640 : (Jvm.Cond.methodLink "Marginnote" (379 : Nat) ({ cls := "Marginnote$Book", name := "firstOf", desc := "(I)I" } : Jvm.MethodName)) ∈ GW := GW_3 0 (List.mem_of_getElem? (i := 160) rfl) rfl
theorem mw642 : (Jvm.Cond.methodLink "MarginnoteLaw" (102 : Nat) ({ cls := "Marginnote", name := "send", desc := "(II)I" } : Jvm.MethodName)) ∈ GW := GW_3 0 (List.mem_of_getElem? (i := 162) rfl) rfl
theorem mw643 : (Jvm.Cond.instanceMethod ({ cls := "Marginnote", name := "send", desc := "(II)I" } : Jvm.MethodName)) ∈ GW := GW_3 0 (List.mem_of_getElem? (i := 163) rfl) rfl
theorem mw644 : (Jvm.Cond.selects "Marginnote" ({ cls := "Marginnote", name := "send", desc := "(II)I" } : Jvm.MethodName) ({ cls := "Marginnote", name := "send", desc := "(II)I" } : Jvm.MethodName)) ∈ GW := GW_3 0 (List.mem_of_getElem? (i := 164) rfl) rfl
theorem mw645 : (Jvm.Cond.code ({ cls := "Marginnote", name := "send", desc := "(II)I" } : Jvm.MethodName) prog_1_method_16_code (5 : Nat) (Option.some Jvm.ClassFile.FieldType.int)) ∈ GW := GW_3 0 (List.mem_of_getElem? (i := 165) rfl) rfl
theorem mw648 : (Jvm.Cond.instantiable "Marginnote$Message" (3 : Nat)) ∈ GW := GW_3 0 (List.mem_of_getElem? (i := 168) rfl) rfl
theorem mw649 : (Jvm.Cond.methodLink "Marginnote" (184 : Nat) ({ cls := "Marginnote$Message", name := "<init>", desc := "(LMarginnote$Site;I)V" } : Jvm.MethodName)) ∈ GW := GW_3 0 (List.mem_of_getElem? (i := 169) rfl) rfl
theorem mw650 : (Jvm.Cond.instanceMethod ({ cls := "Marginnote$Message", name := "<init>", desc := "(LMarginnote$Site;I)V" } : Jvm.MethodName)) ∈ GW := GW_3 0 (List.mem_of_getElem? (i := 170) rfl) rfl
theorem mw651 : (Jvm.Cond.code ({ cls := "Marginnote$Message", name := "<init>", desc := "(LMarginnote$Site;I)V" } : Jvm.MethodName) prog_4_method_1_code (3 : Nat) (Option.none : Option Jvm.ClassFile.FieldType)) ∈ GW := GW_3 0 (List.mem_of_getElem? (i := 171) rfl) rfl
theorem mw652 : (Jvm.Cond.methodLink "Marginnote$Message" (1 : Nat) ({ cls := "java/lang/Object", name := "<init>", desc := "()V" } : Jvm.MethodName)) ∈ GW := GW_3 0 (List.mem_of_getElem? (i := 172) rfl) rfl
theorem mw653 : (Jvm.Cond.classLink "Marginnote$Message" (7 : Nat) "Marginnote$ActSet") ∈ GW := GW_3 0 (List.mem_of_getElem? (i := 173) rfl) rfl
theorem mw655 : (Jvm.Cond.methodLink "Marginnote$Message" (25 : Nat) ({ cls := "Marginnote$ActSet", name := "copyFrom", desc := "(LMarginnote$ActSet;)V" } : Jvm.MethodName)) ∈ GW := GW_3 0 (List.mem_of_getElem? (i := 175) rfl) rfl
theorem mw656 : (Jvm.Cond.instanceMethod ({ cls := "Marginnote$ActSet", name := "copyFrom", desc := "(LMarginnote$ActSet;)V" } : Jvm.MethodName)) ∈ GW := GW_3 0 (List.mem_of_getElem? (i := 176) rfl) rfl
theorem mw657 : (Jvm.Cond.selects "Marginnote$ActSet" ({ cls := "Marginnote$ActSet", name := "copyFrom", desc := "(LMarginnote$ActSet;)V" } : Jvm.MethodName) ({ cls := "Marginnote$ActSet", name := "copyFrom", desc := "(LMarginnote$ActSet;)V" } : Jvm.MethodName)) ∈ GW := GW_3 0 (List.mem_of_getElem? (i := 177) rfl) rfl
theorem mw658 : (Jvm.Cond.code ({ cls := "Marginnote$ActSet", name := "copyFrom", desc := "(LMarginnote$ActSet;)V" } : Jvm.MethodName) prog_2_method_6_code (3 : Nat) (Option.none : Option Jvm.ClassFile.FieldType)) ∈ GW := GW_3 0 (List.mem_of_getElem? (i := 178) rfl) rfl
theorem mw659 : (Jvm.Cond.methodLink "Marginnote$ActSet" (19 : Nat) ({ cls := "Marginnote$ActSet", name := "contains", desc := "(I)Z" } : Jvm.MethodName)) ∈ GW := GW_3 0 (List.mem_of_getElem? (i := 179) rfl) rfl
theorem mw660 : (Jvm.Cond.methodLink "Marginnote$Message" (33 : Nat) ({ cls := "[I", name := "clone", desc := "()Ljava/lang/Object;" } : Jvm.MethodName)) ∈ GW := GW_3 0 (List.mem_of_getElem? (i := 180) rfl) rfl
theorem mw662 : (Jvm.Cond.native ({ cls := "java/lang/Object", name := "clone", desc := "()Ljava/lang/Object;" } : Jvm.MethodName)) ∈ GW := GW_3 0 (List.mem_of_getElem? (i := 182) rfl) rfl
theorem mw663 : (Jvm.Cond.instanceMethod ({ cls := "java/lang/Object", name := "clone", desc := "()Ljava/lang/Object;" } : Jvm.MethodName)) ∈ GW := GW_3 0 (List.mem_of_getElem? (i := 183) rfl) rfl
theorem mw664 : (Jvm.Cond.selects "[I" ({ cls := "[I", name := "clone", desc := "()Ljava/lang/Object;" } : Jvm.MethodName) ({ cls := "java/lang/Object", name := "clone", desc := "()Ljava/lang/Object;" } : Jvm.MethodName)) ∈ GW := GW_3 0 (List.mem_of_getElem? (i := 184) rfl) rfl
theorem mw666 : (Jvm.Cond.classLink "Marginnote$Message" (34 : Nat) "[I") ∈ GW := GW_3 0 (List.mem_of_getElem? (i := 186) rfl) rfl
theorem mw667 : (Jvm.Cond.fieldLink "Marginnote$Message" (16 : Nat) "Marginnote$Message" "receiver" "I") ∈ GW := GW_3 0 (List.mem_of_getElem? (i := 187) rfl) rfl
theorem mw669 : (Jvm.Cond.fieldLink "Marginnote$Message" (10 : Nat) "Marginnote$Message" "acts" "LMarginnote$ActSet;") ∈ GW := GW_3 0 (List.mem_of_getElem? (i := 189) rfl) rfl
theorem mw671 : (Jvm.Cond.fieldLink "Marginnote$Message" (38 : Nat) "Marginnote$Message" "known" "[I") ∈ GW := GW_3 0 (List.mem_of_getElem? (i := 191) rfl) rfl
theorem mw673 : (Jvm.Cond.laysFinal "Marginnote$Message" "Marginnote$Message" "receiver" "I") ∈ GW := GW_3 0 (List.mem_of_getElem? (i := 193) rfl) rfl
theorem mw675 : (Jvm.Cond.laysFinal "Marginnote$Message" "Marginnote$Message" "acts" "LMarginnote$ActSet;") ∈ GW := GW_3 0 (List.mem_of_getElem? (i := 195) rfl) rfl
theorem mw677 : (Jvm.Cond.laysFinal "Marginnote$Message" "Marginnote$Message" "known" "[I") ∈ GW := GW_3 0 (List.mem_of_getElem? (i := 197) rfl) rfl
theorem mw680 : (Jvm.Cond.methodLink "MarginnoteLaw" (105 : Nat) ({ cls := "Marginnote", name := "deliver", desc := "(I)I" } : Jvm.MethodName)) ∈ GW := GW_3 0 (List.mem_of_getElem? (i := 200) rfl) rfl
theorem mw681 : (Jvm.Cond.instanceMethod ({ cls := "Marginnote", name := "deliver", desc := "(I)I" } : Jvm.MethodName)) ∈ GW := GW_3 0 (List.mem_of_getElem? (i := 201) rfl) rfl
theorem mw682 : (Jvm.Cond.selects "Marginnote" ({ cls := "Marginnote", name := "deliver", desc := "(I)I" } : Jvm.MethodName) ({ cls := "Marginnote", name := "deliver", desc := "(I)I" } : Jvm.MethodName)) ∈ GW := GW_3 0 (List.mem_of_getElem? (i := 202) rfl) rfl
theorem mw683 : (Jvm.Cond.code ({ cls := "Marginnote", name := "deliver", desc := "(I)I" } : Jvm.MethodName) prog_1_method_17_code (7 : Nat) (Option.some Jvm.ClassFile.FieldType.int)) ∈ GW := GW_3 0 (List.mem_of_getElem? (i := 203) rfl) rfl
theorem mw684 : (Jvm.Cond.methodLink "Marginnote" (186 : Nat) ({ cls := "Marginnote", name := "messageAt", desc := "(I)LMarginnote$Message;" } : Jvm.MethodName)) ∈ GW := GW_3 0 (List.mem_of_getElem? (i := 204) rfl) rfl
theorem mw686 : (Jvm.Cond.instanceMethod ({ cls := "Marginnote", name := "messageAt", desc := "(I)LMarginnote$Message;" } : Jvm.MethodName)) ∈ GW := GW_3 0 (List.mem_of_getElem? (i := 206) rfl) rfl
theorem mw687 : (Jvm.Cond.code ({ cls := "Marginnote", name := "messageAt", desc := "(I)LMarginnote$Message;" } : Jvm.MethodName) prog_1_method_46_code (2 : Nat) (Option.some (Jvm.ClassFile.FieldType.object "Marginnote$Message"))) ∈ GW := GW_3 0 (List.mem_of_getElem? (i := 207) rfl) rfl
theorem mw689 : (Jvm.Cond.methodLink "Marginnote" (212 : Nat) ({ cls := "Marginnote$Book", name := "countOf", desc := "(I)I" } : Jvm.MethodName)) ∈ GW := GW_3 0 (List.mem_of_getElem? (i := 209) rfl) rfl
theorem mw690 : (Jvm.Cond.methodLink "Marginnote" (222 : Nat) ({ cls := "Marginnote$Site", name := "learn", desc := "([I)V" } : Jvm.MethodName)) ∈ GW := GW_3 0 (List.mem_of_getElem? (i := 210) rfl) rfl
theorem mw691 : (Jvm.Cond.instanceMethod ({ cls := "Marginnote$Site", name := "learn", desc := "([I)V" } : Jvm.MethodName)) ∈ GW := GW_3 0 (List.mem_of_getElem? (i := 211) rfl) rfl
theorem mw692 : (Jvm.Cond.selects "Marginnote$Site" ({ cls := "Marginnote$Site", name := "learn", desc := "([I)V" } : Jvm.MethodName) ({ cls := "Marginnote$Site", name := "learn", desc := "([I)V" } : Jvm.MethodName)) ∈ GW := GW_3 0 (List.mem_of_getElem? (i := 212) rfl) rfl
theorem mw693 : (Jvm.Cond.code ({ cls := "Marginnote$Site", name := "learn", desc := "([I)V" } : Jvm.MethodName) prog_6_method_4_code (3 : Nat) (Option.none : Option Jvm.ClassFile.FieldType)) ∈ GW := GW_3 0 (List.mem_of_getElem? (i := 213) rfl) rfl
theorem mw694 : (Jvm.Cond.methodLink "MarginnoteLaw" (14 : Nat) ({ cls := "Marginnote", name := "length", desc := "(I)I" } : Jvm.MethodName)) ∈ GW := GW_3 0 (List.mem_of_getElem? (i := 214) rfl) rfl
theorem mw695 : (Jvm.Cond.instanceMethod ({ cls := "Marginnote", name := "length", desc := "(I)I" } : Jvm.MethodName)) ∈ GW := GW_3 0 (List.mem_of_getElem? (i := 215) rfl) rfl
theorem mw696 : (Jvm.Cond.selects "Marginnote" ({ cls := "Marginnote", name := "length", desc := "(I)I" } : Jvm.MethodName) ({ cls := "Marginnote", name := "length", desc := "(I)I" } : Jvm.MethodName)) ∈ GW := GW_3 0 (List.mem_of_getElem? (i := 216) rfl) rfl
theorem mw697 : (Jvm.Cond.code ({ cls := "Marginnote", name := "length", desc := "(I)I" } : Jvm.MethodName) prog_1_method_23_code (2 : Nat) (Option.some Jvm.ClassFile.FieldType.int)) ∈ GW := GW_3 0 (List.mem_of_getElem? (i := 217) rfl) rfl
theorem mw698 : (Jvm.Cond.methodLink "Marginnote" (270 : Nat) ({ cls := "Marginnote$Paper", name := "countSeen", desc := "()I" } : Jvm.MethodName)) ∈ GW := GW_3 0 (List.mem_of_getElem? (i := 218) rfl) rfl
theorem mw699 : (Jvm.Cond.instanceMethod ({ cls := "Marginnote$Paper", name := "countSeen", desc := "()I" } : Jvm.MethodName)) ∈ GW := GW_3 0 (List.mem_of_getElem? (i := 219) rfl) rfl
theorem mw700 : (Jvm.Cond.selects "Marginnote$Paper" ({ cls := "Marginnote$Paper", name := "countSeen", desc := "()I" } : Jvm.MethodName) ({ cls := "Marginnote$Paper", name := "countSeen", desc := "()I" } : Jvm.MethodName)) ∈ GW := GW_3 0 (List.mem_of_getElem? (i := 220) rfl) rfl
theorem mw701 : (Jvm.Cond.code ({ cls := "Marginnote$Paper", name := "countSeen", desc := "()I" } : Jvm.MethodName) prog_5_method_34_code (3 : Nat) (Option.some Jvm.ClassFile.FieldType.int)) ∈ GW := GW_3 0 (List.mem_of_getElem? (i := 221) rfl) rfl
theorem mw702 : (Jvm.Cond.methodLink "MarginnoteLaw" (29 : Nat) ({ cls := "Marginnote", name := "element", desc := "(II)I" } : Jvm.MethodName)) ∈ GW := GW_3 0 (List.mem_of_getElem? (i := 222) rfl) rfl
theorem mw703 : (Jvm.Cond.instanceMethod ({ cls := "Marginnote", name := "element", desc := "(II)I" } : Jvm.MethodName)) ∈ GW := GW_3 0 (List.mem_of_getElem? (i := 223) rfl) rfl
theorem mw704 : (Jvm.Cond.selects "Marginnote" ({ cls := "Marginnote", name := "element", desc := "(II)I" } : Jvm.MethodName) ({ cls := "Marginnote", name := "element", desc := "(II)I" } : Jvm.MethodName)) ∈ GW := GW_3 0 (List.mem_of_getElem? (i := 224) rfl) rfl
theorem mw705 : (Jvm.Cond.code ({ cls := "Marginnote", name := "element", desc := "(II)I" } : Jvm.MethodName) prog_1_method_25_code (3 : Nat) (Option.some Jvm.ClassFile.FieldType.int)) ∈ GW := GW_3 0 (List.mem_of_getElem? (i := 225) rfl) rfl
theorem mw706 : (Jvm.Cond.methodLink "MarginnoteLaw" (37 : Nat) ({ cls := "Marginnote", name := "proposed", desc := "(II)I" } : Jvm.MethodName)) ∈ GW := GW_3 0 (List.mem_of_getElem? (i := 226) rfl) rfl
theorem mw707 : (Jvm.Cond.instanceMethod ({ cls := "Marginnote", name := "proposed", desc := "(II)I" } : Jvm.MethodName)) ∈ GW := GW_3 0 (List.mem_of_getElem? (i := 227) rfl) rfl
theorem mw708 : (Jvm.Cond.selects "Marginnote" ({ cls := "Marginnote", name := "proposed", desc := "(II)I" } : Jvm.MethodName) ({ cls := "Marginnote", name := "proposed", desc := "(II)I" } : Jvm.MethodName)) ∈ GW := GW_3 0 (List.mem_of_getElem? (i := 228) rfl) rfl
theorem mw709 : (Jvm.Cond.code ({ cls := "Marginnote", name := "proposed", desc := "(II)I" } : Jvm.MethodName) prog_1_method_28_code (4 : Nat) (Option.some Jvm.ClassFile.FieldType.int)) ∈ GW := GW_3 0 (List.mem_of_getElem? (i := 229) rfl) rfl
theorem mw710 : (Jvm.Cond.methodLink "Marginnote" (282 : Nat) ({ cls := "Marginnote$Paper", name := "proposalsFor", desc := "(I)I" } : Jvm.MethodName)) ∈ GW := GW_3 0 (List.mem_of_getElem? (i := 230) rfl) rfl
theorem mw711 : (Jvm.Cond.instanceMethod ({ cls := "Marginnote$Paper", name := "proposalsFor", desc := "(I)I" } : Jvm.MethodName)) ∈ GW := GW_3 0 (List.mem_of_getElem? (i := 231) rfl) rfl
theorem mw712 : (Jvm.Cond.selects "Marginnote$Paper" ({ cls := "Marginnote$Paper", name := "proposalsFor", desc := "(I)I" } : Jvm.MethodName) ({ cls := "Marginnote$Paper", name := "proposalsFor", desc := "(I)I" } : Jvm.MethodName)) ∈ GW := GW_3 0 (List.mem_of_getElem? (i := 232) rfl) rfl
theorem mw713 : (Jvm.Cond.code ({ cls := "Marginnote$Paper", name := "proposalsFor", desc := "(I)I" } : Jvm.MethodName) prog_5_method_21_code (5 : Nat) (Option.some Jvm.ClassFile.FieldType.int)) ∈ GW := GW_3 0 (List.mem_of_getElem? (i := 233) rfl) rfl
theorem mw714 : (Jvm.Cond.methodLink "MarginnoteLaw" (26 : Nat) ({ cls := "Marginnote", name := "open", desc := "(I)I" } : Jvm.MethodName)) ∈ GW := GW_3 0 (List.mem_of_getElem? (i := 234) rfl) rfl
theorem mw715 : (Jvm.Cond.instanceMethod ({ cls := "Marginnote", name := "open", desc := "(I)I" } : Jvm.MethodName)) ∈ GW := GW_3 0 (List.mem_of_getElem? (i := 235) rfl) rfl
theorem mw716 : (Jvm.Cond.selects "Marginnote" ({ cls := "Marginnote", name := "open", desc := "(I)I" } : Jvm.MethodName) ({ cls := "Marginnote", name := "open", desc := "(I)I" } : Jvm.MethodName)) ∈ GW := GW_3 0 (List.mem_of_getElem? (i := 236) rfl) rfl
theorem mw717 : (Jvm.Cond.code ({ cls := "Marginnote", name := "open", desc := "(I)I" } : Jvm.MethodName) prog_1_method_29_code (2 : Nat) (Option.some Jvm.ClassFile.FieldType.int)) ∈ GW := GW_3 0 (List.mem_of_getElem? (i := 237) rfl) rfl
theorem mw718 : (Jvm.Cond.methodLink "Marginnote" (285 : Nat) ({ cls := "Marginnote$Paper", name := "countOpen", desc := "()I" } : Jvm.MethodName)) ∈ GW := GW_3 0 (List.mem_of_getElem? (i := 238) rfl) rfl
theorem mw719 : (Jvm.Cond.instanceMethod ({ cls := "Marginnote$Paper", name := "countOpen", desc := "()I" } : Jvm.MethodName)) ∈ GW := GW_3 0 (List.mem_of_getElem? (i := 239) rfl) rfl
theorem mw720 : (Jvm.Cond.selects "Marginnote$Paper" ({ cls := "Marginnote$Paper", name := "countOpen", desc := "()I" } : Jvm.MethodName) ({ cls := "Marginnote$Paper", name := "countOpen", desc := "()I" } : Jvm.MethodName)) ∈ GW := GW_4 0 (List.mem_of_getElem? (i := 0) rfl) rfl
theorem mw721 : (Jvm.Cond.code ({ cls := "Marginnote$Paper", name := "countOpen", desc := "()I" } : Jvm.MethodName) prog_5_method_20_code (3 : Nat) (Option.some Jvm.ClassFile.FieldType.int)) ∈ GW := GW_4 0 (List.mem_of_getElem? (i := 1) rfl) rfl
theorem mw722 : (Jvm.Cond.methodLink "MarginnoteLaw" (99 : Nat) ({ cls := "Marginnote", name := "covered", desc := "(II)I" } : Jvm.MethodName)) ∈ GW := GW_4 0 (List.mem_of_getElem? (i := 2) rfl) rfl
theorem mw723 : (Jvm.Cond.instanceMethod ({ cls := "Marginnote", name := "covered", desc := "(II)I" } : Jvm.MethodName)) ∈ GW := GW_4 0 (List.mem_of_getElem? (i := 3) rfl) rfl
theorem mw724 : (Jvm.Cond.selects "Marginnote" ({ cls := "Marginnote", name := "covered", desc := "(II)I" } : Jvm.MethodName) ({ cls := "Marginnote", name := "covered", desc := "(II)I" } : Jvm.MethodName)) ∈ GW := GW_4 0 (List.mem_of_getElem? (i := 4) rfl) rfl
theorem mw725 : (Jvm.Cond.code ({ cls := "Marginnote", name := "covered", desc := "(II)I" } : Jvm.MethodName) prog_1_method_31_code (4 : Nat) (Option.some Jvm.ClassFile.FieldType.int)) ∈ GW := GW_4 0 (List.mem_of_getElem? (i := 5) rfl) rfl
theorem mw726 : (Jvm.Cond.methodLink "Marginnote" (279 : Nat) ({ cls := "Marginnote$Book", name := "valueOf", desc := "(I)I" } : Jvm.MethodName)) ∈ GW := GW_4 0 (List.mem_of_getElem? (i := 6) rfl) rfl
theorem mw727 : (Jvm.Cond.methodLink "Marginnote" (294 : Nat) ({ cls := "Marginnote", name := "commentBit", desc := "(I)I" } : Jvm.MethodName)) ∈ GW := GW_4 0 (List.mem_of_getElem? (i := 7) rfl) rfl
theorem mw728 : (Jvm.Cond.methodLink "Marginnote" (297 : Nat) ({ cls := "Marginnote$Paper", name := "countSeenWith", desc := "(I)I" } : Jvm.MethodName)) ∈ GW := GW_4 0 (List.mem_of_getElem? (i := 8) rfl) rfl
theorem mw729 : (Jvm.Cond.instanceMethod ({ cls := "Marginnote$Paper", name := "countSeenWith", desc := "(I)I" } : Jvm.MethodName)) ∈ GW := GW_4 0 (List.mem_of_getElem? (i := 9) rfl) rfl
theorem mw730 : (Jvm.Cond.selects "Marginnote$Paper" ({ cls := "Marginnote$Paper", name := "countSeenWith", desc := "(I)I" } : Jvm.MethodName) ({ cls := "Marginnote$Paper", name := "countSeenWith", desc := "(I)I" } : Jvm.MethodName)) ∈ GW := GW_4 0 (List.mem_of_getElem? (i := 10) rfl) rfl
theorem mw731 : (Jvm.Cond.code ({ cls := "Marginnote$Paper", name := "countSeenWith", desc := "(I)I" } : Jvm.MethodName) prog_5_method_37_code (4 : Nat) (Option.some Jvm.ClassFile.FieldType.int)) ∈ GW := GW_4 0 (List.mem_of_getElem? (i := 11) rfl) rfl
theorem mw732 : (Jvm.Cond.methodLink "Marginnote$Paper" (182 : Nat) ({ cls := "Marginnote$Paper", name := "hasBit", desc := "(II)Z" } : Jvm.MethodName)) ∈ GW := GW_4 0 (List.mem_of_getElem? (i := 12) rfl) rfl
theorem mw733 : (Jvm.Cond.instanceMethod ({ cls := "Marginnote$Paper", name := "hasBit", desc := "(II)Z" } : Jvm.MethodName)) ∈ GW := GW_4 0 (List.mem_of_getElem? (i := 13) rfl) rfl
theorem mw734 : (Jvm.Cond.selects "Marginnote$Paper" ({ cls := "Marginnote$Paper", name := "hasBit", desc := "(II)Z" } : Jvm.MethodName) ({ cls := "Marginnote$Paper", name := "hasBit", desc := "(II)Z" } : Jvm.MethodName)) ∈ GW := GW_4 0 (List.mem_of_getElem? (i := 14) rfl) rfl
theorem mw735 : (Jvm.Cond.code ({ cls := "Marginnote$Paper", name := "hasBit", desc := "(II)Z" } : Jvm.MethodName) prog_5_method_27_code (3 : Nat) (Option.some Jvm.ClassFile.FieldType.boolean)) ∈ GW := GW_4 0 (List.mem_of_getElem? (i := 15) rfl) rfl
theorem mw736 : (Jvm.Cond.methodLink "MarginnoteLaw" (20 : Nat) ({ cls := "Marginnote", name := "blocks", desc := "(I)I" } : Jvm.MethodName)) ∈ GW := GW_4 0 (List.mem_of_getElem? (i := 16) rfl) rfl
theorem mw737 : (Jvm.Cond.instanceMethod ({ cls := "Marginnote", name := "blocks", desc := "(I)I" } : Jvm.MethodName)) ∈ GW := GW_4 0 (List.mem_of_getElem? (i := 17) rfl) rfl
theorem mw738 : (Jvm.Cond.selects "Marginnote" ({ cls := "Marginnote", name := "blocks", desc := "(I)I" } : Jvm.MethodName) ({ cls := "Marginnote", name := "blocks", desc := "(I)I" } : Jvm.MethodName)) ∈ GW := GW_4 0 (List.mem_of_getElem? (i := 18) rfl) rfl
theorem mw739 : (Jvm.Cond.code ({ cls := "Marginnote", name := "blocks", desc := "(I)I" } : Jvm.MethodName) prog_1_method_32_code (2 : Nat) (Option.some Jvm.ClassFile.FieldType.int)) ∈ GW := GW_4 0 (List.mem_of_getElem? (i := 19) rfl) rfl
theorem mw740 : (Jvm.Cond.methodLink "Marginnote" (300 : Nat) ({ cls := "Marginnote$Paper", name := "countBlocks", desc := "()I" } : Jvm.MethodName)) ∈ GW := GW_4 0 (List.mem_of_getElem? (i := 20) rfl) rfl
theorem mw741 : (Jvm.Cond.instanceMethod ({ cls := "Marginnote$Paper", name := "countBlocks", desc := "()I" } : Jvm.MethodName)) ∈ GW := GW_4 0 (List.mem_of_getElem? (i := 21) rfl) rfl
theorem mw742 : (Jvm.Cond.selects "Marginnote$Paper" ({ cls := "Marginnote$Paper", name := "countBlocks", desc := "()I" } : Jvm.MethodName) ({ cls := "Marginnote$Paper", name := "countBlocks", desc := "()I" } : Jvm.MethodName)) ∈ GW := GW_4 0 (List.mem_of_getElem? (i := 22) rfl) rfl
theorem mw743 : (Jvm.Cond.code ({ cls := "Marginnote$Paper", name := "countBlocks", desc := "()I" } : Jvm.MethodName) prog_5_method_41_code (3 : Nat) (Option.some Jvm.ClassFile.FieldType.int)) ∈ GW := GW_4 0 (List.mem_of_getElem? (i := 23) rfl) rfl
theorem mw744 : (Jvm.Cond.methodLink "MarginnoteLaw" (139 : Nat) ({ cls := "Marginnote", name := "kind", desc := "(II)I" } : Jvm.MethodName)) ∈ GW := GW_4 0 (List.mem_of_getElem? (i := 24) rfl) rfl
theorem mw745 : (Jvm.Cond.instanceMethod ({ cls := "Marginnote", name := "kind", desc := "(II)I" } : Jvm.MethodName)) ∈ GW := GW_4 0 (List.mem_of_getElem? (i := 25) rfl) rfl
theorem mw746 : (Jvm.Cond.selects "Marginnote" ({ cls := "Marginnote", name := "kind", desc := "(II)I" } : Jvm.MethodName) ({ cls := "Marginnote", name := "kind", desc := "(II)I" } : Jvm.MethodName)) ∈ GW := GW_4 0 (List.mem_of_getElem? (i := 26) rfl) rfl
theorem mw747 : (Jvm.Cond.code ({ cls := "Marginnote", name := "kind", desc := "(II)I" } : Jvm.MethodName) prog_1_method_33_code (4 : Nat) (Option.some Jvm.ClassFile.FieldType.int)) ∈ GW := GW_4 0 (List.mem_of_getElem? (i := 27) rfl) rfl
theorem mw748 : (Jvm.Cond.methodLink "Marginnote" (303 : Nat) ({ cls := "Marginnote$Paper", name := "kindOf", desc := "(I)I" } : Jvm.MethodName)) ∈ GW := GW_4 0 (List.mem_of_getElem? (i := 28) rfl) rfl
theorem mw749 : (Jvm.Cond.instanceMethod ({ cls := "Marginnote$Paper", name := "kindOf", desc := "(I)I" } : Jvm.MethodName)) ∈ GW := GW_4 0 (List.mem_of_getElem? (i := 29) rfl) rfl
theorem mw750 : (Jvm.Cond.selects "Marginnote$Paper" ({ cls := "Marginnote$Paper", name := "kindOf", desc := "(I)I" } : Jvm.MethodName) ({ cls := "Marginnote$Paper", name := "kindOf", desc := "(I)I" } : Jvm.MethodName)) ∈ GW := GW_4 0 (List.mem_of_getElem? (i := 30) rfl) rfl
theorem mw751 : (Jvm.Cond.code ({ cls := "Marginnote$Paper", name := "kindOf", desc := "(I)I" } : Jvm.MethodName) prog_5_method_43_code (2 : Nat) (Option.some Jvm.ClassFile.FieldType.int)) ∈ GW := GW_4 0 (List.mem_of_getElem? (i := 31) rfl) rfl
theorem mw752 : (Jvm.Cond.methodLink "MarginnoteLaw" (56 : Nat) ({ cls := "Marginnote", name := "level", desc := "(II)I" } : Jvm.MethodName)) ∈ GW := GW_4 0 (List.mem_of_getElem? (i := 32) rfl) rfl
theorem mw753 : (Jvm.Cond.instanceMethod ({ cls := "Marginnote", name := "level", desc := "(II)I" } : Jvm.MethodName)) ∈ GW := GW_4 0 (List.mem_of_getElem? (i := 33) rfl) rfl
theorem mw754 : (Jvm.Cond.selects "Marginnote" ({ cls := "Marginnote", name := "level", desc := "(II)I" } : Jvm.MethodName) ({ cls := "Marginnote", name := "level", desc := "(II)I" } : Jvm.MethodName)) ∈ GW := GW_4 0 (List.mem_of_getElem? (i := 34) rfl) rfl
theorem mw755 : (Jvm.Cond.code ({ cls := "Marginnote", name := "level", desc := "(II)I" } : Jvm.MethodName) prog_1_method_35_code (4 : Nat) (Option.some Jvm.ClassFile.FieldType.int)) ∈ GW := GW_4 0 (List.mem_of_getElem? (i := 35) rfl) rfl
theorem mw756 : (Jvm.Cond.methodLink "MarginnoteLaw" (44 : Nat) ({ cls := "Marginnote", name := "cursor", desc := "(I)I" } : Jvm.MethodName)) ∈ GW := GW_4 0 (List.mem_of_getElem? (i := 36) rfl) rfl
theorem mw757 : (Jvm.Cond.instanceMethod ({ cls := "Marginnote", name := "cursor", desc := "(I)I" } : Jvm.MethodName)) ∈ GW := GW_4 0 (List.mem_of_getElem? (i := 37) rfl) rfl
theorem mw758 : (Jvm.Cond.selects "Marginnote" ({ cls := "Marginnote", name := "cursor", desc := "(I)I" } : Jvm.MethodName) ({ cls := "Marginnote", name := "cursor", desc := "(I)I" } : Jvm.MethodName)) ∈ GW := GW_4 0 (List.mem_of_getElem? (i := 38) rfl) rfl
theorem mw759 : (Jvm.Cond.code ({ cls := "Marginnote", name := "cursor", desc := "(I)I" } : Jvm.MethodName) prog_1_method_36_code (3 : Nat) (Option.some Jvm.ClassFile.FieldType.int)) ∈ GW := GW_4 0 (List.mem_of_getElem? (i := 39) rfl) rfl
theorem mw760 : (Jvm.Cond.methodLink "MarginnoteLaw" (47 : Nat) ({ cls := "Marginnote", name := "tail", desc := "(I)I" } : Jvm.MethodName)) ∈ GW := GW_4 0 (List.mem_of_getElem? (i := 40) rfl) rfl
theorem mw761 : (Jvm.Cond.instanceMethod ({ cls := "Marginnote", name := "tail", desc := "(I)I" } : Jvm.MethodName)) ∈ GW := GW_4 0 (List.mem_of_getElem? (i := 41) rfl) rfl
theorem mw762 : (Jvm.Cond.selects "Marginnote" ({ cls := "Marginnote", name := "tail", desc := "(I)I" } : Jvm.MethodName) ({ cls := "Marginnote", name := "tail", desc := "(I)I" } : Jvm.MethodName)) ∈ GW := GW_4 0 (List.mem_of_getElem? (i := 42) rfl) rfl
theorem mw763 : (Jvm.Cond.code ({ cls := "Marginnote", name := "tail", desc := "(I)I" } : Jvm.MethodName) prog_1_method_37_code (3 : Nat) (Option.some Jvm.ClassFile.FieldType.int)) ∈ GW := GW_4 0 (List.mem_of_getElem? (i := 43) rfl) rfl
theorem mw764 : (Jvm.Cond.methodLink "MarginnoteLaw" (82 : Nat) ({ cls := "Marginnote", name := "acts", desc := "()I" } : Jvm.MethodName)) ∈ GW := GW_4 0 (List.mem_of_getElem? (i := 44) rfl) rfl
theorem mw765 : (Jvm.Cond.instanceMethod ({ cls := "Marginnote", name := "acts", desc := "()I" } : Jvm.MethodName)) ∈ GW := GW_4 0 (List.mem_of_getElem? (i := 45) rfl) rfl
theorem mw766 : (Jvm.Cond.selects "Marginnote" ({ cls := "Marginnote", name := "acts", desc := "()I" } : Jvm.MethodName) ({ cls := "Marginnote", name := "acts", desc := "()I" } : Jvm.MethodName)) ∈ GW := GW_4 0 (List.mem_of_getElem? (i := 46) rfl) rfl
theorem mw767 : (Jvm.Cond.code ({ cls := "Marginnote", name := "acts", desc := "()I" } : Jvm.MethodName) prog_1_method_40_code (1 : Nat) (Option.some Jvm.ClassFile.FieldType.int)) ∈ GW := GW_4 0 (List.mem_of_getElem? (i := 47) rfl) rfl
theorem mw768 : (Jvm.Cond.methodLink "MarginnoteLaw" (8 : Nat) ({ cls := "Marginnote", name := "has", desc := "(I)I" } : Jvm.MethodName)) ∈ GW := GW_4 0 (List.mem_of_getElem? (i := 48) rfl) rfl
theorem mw769 : (Jvm.Cond.instanceMethod ({ cls := "Marginnote", name := "has", desc := "(I)I" } : Jvm.MethodName)) ∈ GW := GW_4 0 (List.mem_of_getElem? (i := 49) rfl) rfl
theorem mw770 : (Jvm.Cond.selects "Marginnote" ({ cls := "Marginnote", name := "has", desc := "(I)I" } : Jvm.MethodName) ({ cls := "Marginnote", name := "has", desc := "(I)I" } : Jvm.MethodName)) ∈ GW := GW_4 0 (List.mem_of_getElem? (i := 50) rfl) rfl
theorem mw771 : (Jvm.Cond.code ({ cls := "Marginnote", name := "has", desc := "(I)I" } : Jvm.MethodName) prog_1_method_41_code (2 : Nat) (Option.some Jvm.ClassFile.FieldType.int)) ∈ GW := GW_4 0 (List.mem_of_getElem? (i := 51) rfl) rfl
theorem mw772 : (Jvm.Cond.methodLink "MarginnoteLaw" (119 : Nat) ({ cls := "Marginnote", name := "act", desc := "(I)I" } : Jvm.MethodName)) ∈ GW := GW_4 0 (List.mem_of_getElem? (i := 52) rfl) rfl
theorem mw773 : (Jvm.Cond.instanceMethod ({ cls := "Marginnote", name := "act", desc := "(I)I" } : Jvm.MethodName)) ∈ GW := GW_4 0 (List.mem_of_getElem? (i := 53) rfl) rfl
theorem mw774 : (Jvm.Cond.selects "Marginnote" ({ cls := "Marginnote", name := "act", desc := "(I)I" } : Jvm.MethodName) ({ cls := "Marginnote", name := "act", desc := "(I)I" } : Jvm.MethodName)) ∈ GW := GW_4 0 (List.mem_of_getElem? (i := 54) rfl) rfl
theorem mw775 : (Jvm.Cond.code ({ cls := "Marginnote", name := "act", desc := "(I)I" } : Jvm.MethodName) prog_1_method_43_code (2 : Nat) (Option.some Jvm.ClassFile.FieldType.int)) ∈ GW := GW_4 0 (List.mem_of_getElem? (i := 55) rfl) rfl
theorem mw777 : (Jvm.Cond.methodLink "MarginnoteLaw" (115 : Nat) ({ cls := "Marginnote", name := "isUndone", desc := "(II)Z" } : Jvm.MethodName)) ∈ GW := GW_4 0 (List.mem_of_getElem? (i := 57) rfl) rfl
theorem mw778 : (Jvm.Cond.instanceMethod ({ cls := "Marginnote", name := "isUndone", desc := "(II)Z" } : Jvm.MethodName)) ∈ GW := GW_4 0 (List.mem_of_getElem? (i := 58) rfl) rfl
theorem mw779 : (Jvm.Cond.selects "Marginnote" ({ cls := "Marginnote", name := "isUndone", desc := "(II)Z" } : Jvm.MethodName) ({ cls := "Marginnote", name := "isUndone", desc := "(II)Z" } : Jvm.MethodName)) ∈ GW := GW_4 0 (List.mem_of_getElem? (i := 59) rfl) rfl
theorem mw780 : (Jvm.Cond.code ({ cls := "Marginnote", name := "isUndone", desc := "(II)Z" } : Jvm.MethodName) prog_1_method_44_code (4 : Nat) (Option.some Jvm.ClassFile.FieldType.boolean)) ∈ GW := GW_4 0 (List.mem_of_getElem? (i := 60) rfl) rfl
theorem mw781 : (Jvm.Cond.methodLink "MarginnoteLaw" (63 : Nat) ({ cls := "MarginnoteLaw", name := "cell", desc := "([II)I" } : Jvm.MethodName)) ∈ GW := GW_4 0 (List.mem_of_getElem? (i := 61) rfl) rfl
theorem mw782 : (Jvm.Cond.static ({ cls := "MarginnoteLaw", name := "cell", desc := "([II)I" } : Jvm.MethodName)) ∈ GW := GW_4 0 (List.mem_of_getElem? (i := 62) rfl) rfl
theorem mw783 : (Jvm.Cond.code ({ cls := "MarginnoteLaw", name := "cell", desc := "([II)I" } : Jvm.MethodName) method_2_code (2 : Nat) (Option.some Jvm.ClassFile.FieldType.int)) ∈ GW := GW_4 0 (List.mem_of_getElem? (i := 63) rfl) rfl
theorem mw784 : (Jvm.Cond.methodLink "MarginnoteLaw" (69 : Nat) ({ cls := "MarginnoteLaw", name := "low", desc := "(II)I" } : Jvm.MethodName)) ∈ GW := GW_4 0 (List.mem_of_getElem? (i := 64) rfl) rfl
theorem mw785 : (Jvm.Cond.static ({ cls := "MarginnoteLaw", name := "low", desc := "(II)I" } : Jvm.MethodName)) ∈ GW := GW_4 0 (List.mem_of_getElem? (i := 65) rfl) rfl
theorem mw786 : (Jvm.Cond.code ({ cls := "MarginnoteLaw", name := "low", desc := "(II)I" } : Jvm.MethodName) method_3_code (2 : Nat) (Option.some Jvm.ClassFile.FieldType.int)) ∈ GW := GW_4 0 (List.mem_of_getElem? (i := 66) rfl) rfl
theorem mw787 : (Jvm.Cond.constant "MarginnoteLaw" (7 : Nat) (2147483647 : Int32)) ∈ GW := GW_4 0 (List.mem_of_getElem? (i := 67) rfl) rfl
theorem mw788 : (Jvm.Cond.methodLink "MarginnoteLaw" (108 : Nat) ({ cls := "MarginnoteLaw", name := "areAlike", desc := "(LMarginnote;II)Z" } : Jvm.MethodName)) ∈ GW := GW_4 0 (List.mem_of_getElem? (i := 68) rfl) rfl
theorem mw789 : (Jvm.Cond.static ({ cls := "MarginnoteLaw", name := "areAlike", desc := "(LMarginnote;II)Z" } : Jvm.MethodName)) ∈ GW := GW_4 0 (List.mem_of_getElem? (i := 69) rfl) rfl
theorem mw790 : (Jvm.Cond.code ({ cls := "MarginnoteLaw", name := "areAlike", desc := "(LMarginnote;II)Z" } : Jvm.MethodName) method_4_code (5 : Nat) (Option.some Jvm.ClassFile.FieldType.boolean)) ∈ GW := GW_4 0 (List.mem_of_getElem? (i := 70) rfl) rfl
theorem mw791 : (Jvm.Cond.methodLink "MarginnoteLaw" (17 : Nat) ({ cls := "Marginnote", name := "shown", desc := "(I)I" } : Jvm.MethodName)) ∈ GW := GW_4 0 (List.mem_of_getElem? (i := 71) rfl) rfl
theorem mw792 : (Jvm.Cond.instanceMethod ({ cls := "Marginnote", name := "shown", desc := "(I)I" } : Jvm.MethodName)) ∈ GW := GW_4 0 (List.mem_of_getElem? (i := 72) rfl) rfl
theorem mw793 : (Jvm.Cond.selects "Marginnote" ({ cls := "Marginnote", name := "shown", desc := "(I)I" } : Jvm.MethodName) ({ cls := "Marginnote", name := "shown", desc := "(I)I" } : Jvm.MethodName)) ∈ GW := GW_4 0 (List.mem_of_getElem? (i := 73) rfl) rfl
theorem mw794 : (Jvm.Cond.code ({ cls := "Marginnote", name := "shown", desc := "(I)I" } : Jvm.MethodName) prog_1_method_24_code (2 : Nat) (Option.some Jvm.ClassFile.FieldType.int)) ∈ GW := GW_4 0 (List.mem_of_getElem? (i := 74) rfl) rfl
theorem mw795 : (Jvm.Cond.methodLink "Marginnote" (273 : Nat) ({ cls := "Marginnote$Paper", name := "countShown", desc := "()I" } : Jvm.MethodName)) ∈ GW := GW_4 0 (List.mem_of_getElem? (i := 75) rfl) rfl
theorem mw796 : (Jvm.Cond.instanceMethod ({ cls := "Marginnote$Paper", name := "countShown", desc := "()I" } : Jvm.MethodName)) ∈ GW := GW_4 0 (List.mem_of_getElem? (i := 76) rfl) rfl
theorem mw797 : (Jvm.Cond.selects "Marginnote$Paper" ({ cls := "Marginnote$Paper", name := "countShown", desc := "()I" } : Jvm.MethodName) ({ cls := "Marginnote$Paper", name := "countShown", desc := "()I" } : Jvm.MethodName)) ∈ GW := GW_4 0 (List.mem_of_getElem? (i := 77) rfl) rfl
theorem mw798 : (Jvm.Cond.code ({ cls := "Marginnote$Paper", name := "countShown", desc := "()I" } : Jvm.MethodName) prog_5_method_35_code (3 : Nat) (Option.some Jvm.ClassFile.FieldType.int)) ∈ GW := GW_4 0 (List.mem_of_getElem? (i := 78) rfl) rfl
theorem mw799 : (Jvm.Cond.methodLink "Marginnote$Paper" (175 : Nat) ({ cls := "Marginnote$Paper", name := "isShown", desc := "(I)Z" } : Jvm.MethodName)) ∈ GW := GW_4 0 (List.mem_of_getElem? (i := 79) rfl) rfl
theorem mw800 : (Jvm.Cond.instanceMethod ({ cls := "Marginnote$Paper", name := "isShown", desc := "(I)Z" } : Jvm.MethodName)) ∈ GW := GW_4 0 (List.mem_of_getElem? (i := 80) rfl) rfl
theorem mw801 : (Jvm.Cond.selects "Marginnote$Paper" ({ cls := "Marginnote$Paper", name := "isShown", desc := "(I)Z" } : Jvm.MethodName) ({ cls := "Marginnote$Paper", name := "isShown", desc := "(I)Z" } : Jvm.MethodName)) ∈ GW := GW_4 0 (List.mem_of_getElem? (i := 81) rfl) rfl
theorem mw802 : (Jvm.Cond.code ({ cls := "Marginnote$Paper", name := "isShown", desc := "(I)Z" } : Jvm.MethodName) prog_5_method_23_code (2 : Nat) (Option.some Jvm.ClassFile.FieldType.boolean)) ∈ GW := GW_4 0 (List.mem_of_getElem? (i := 82) rfl) rfl
theorem mw803 : (Jvm.Cond.methodLink "MarginnoteLaw" (23 : Nat) ({ cls := "Marginnote", name := "graves", desc := "(I)I" } : Jvm.MethodName)) ∈ GW := GW_4 0 (List.mem_of_getElem? (i := 83) rfl) rfl
theorem mw804 : (Jvm.Cond.instanceMethod ({ cls := "Marginnote", name := "graves", desc := "(I)I" } : Jvm.MethodName)) ∈ GW := GW_4 0 (List.mem_of_getElem? (i := 84) rfl) rfl
theorem mw805 : (Jvm.Cond.selects "Marginnote" ({ cls := "Marginnote", name := "graves", desc := "(I)I" } : Jvm.MethodName) ({ cls := "Marginnote", name := "graves", desc := "(I)I" } : Jvm.MethodName)) ∈ GW := GW_4 0 (List.mem_of_getElem? (i := 85) rfl) rfl
theorem mw806 : (Jvm.Cond.code ({ cls := "Marginnote", name := "graves", desc := "(I)I" } : Jvm.MethodName) prog_1_method_38_code (2 : Nat) (Option.some Jvm.ClassFile.FieldType.int)) ∈ GW := GW_4 0 (List.mem_of_getElem? (i := 86) rfl) rfl
theorem mw807 : (Jvm.Cond.methodLink "Marginnote" (310 : Nat) ({ cls := "Marginnote$Paper", name := "countGraves", desc := "()I" } : Jvm.MethodName)) ∈ GW := GW_4 0 (List.mem_of_getElem? (i := 87) rfl) rfl
theorem mw808 : (Jvm.Cond.instanceMethod ({ cls := "Marginnote$Paper", name := "countGraves", desc := "()I" } : Jvm.MethodName)) ∈ GW := GW_4 0 (List.mem_of_getElem? (i := 88) rfl) rfl
theorem mw809 : (Jvm.Cond.selects "Marginnote$Paper" ({ cls := "Marginnote$Paper", name := "countGraves", desc := "()I" } : Jvm.MethodName) ({ cls := "Marginnote$Paper", name := "countGraves", desc := "()I" } : Jvm.MethodName)) ∈ GW := GW_4 0 (List.mem_of_getElem? (i := 89) rfl) rfl
theorem mw810 : (Jvm.Cond.code ({ cls := "Marginnote$Paper", name := "countGraves", desc := "()I" } : Jvm.MethodName) prog_5_method_36_code (1 : Nat) (Option.some Jvm.ClassFile.FieldType.int)) ∈ GW := GW_4 0 (List.mem_of_getElem? (i := 90) rfl) rfl
theorem mw811 : (Jvm.Cond.methodLink "Marginnote$Paper" (178 : Nat) ({ cls := "Marginnote$Paper", name := "countSeen", desc := "()I" } : Jvm.MethodName)) ∈ GW := GW_4 0 (List.mem_of_getElem? (i := 91) rfl) rfl
theorem mw812 : (Jvm.Cond.methodLink "MarginnoteLaw" (33 : Nat) ({ cls := "Marginnote", name := "letter", desc := "(II)C" } : Jvm.MethodName)) ∈ GW := GW_4 0 (List.mem_of_getElem? (i := 92) rfl) rfl
theorem mw813 : (Jvm.Cond.instanceMethod ({ cls := "Marginnote", name := "letter", desc := "(II)C" } : Jvm.MethodName)) ∈ GW := GW_4 0 (List.mem_of_getElem? (i := 93) rfl) rfl
theorem mw814 : (Jvm.Cond.selects "Marginnote" ({ cls := "Marginnote", name := "letter", desc := "(II)C" } : Jvm.MethodName) ({ cls := "Marginnote", name := "letter", desc := "(II)C" } : Jvm.MethodName)) ∈ GW := GW_4 0 (List.mem_of_getElem? (i := 94) rfl) rfl
theorem mw815 : (Jvm.Cond.code ({ cls := "Marginnote", name := "letter", desc := "(II)C" } : Jvm.MethodName) prog_1_method_27_code (3 : Nat) (Option.some Jvm.ClassFile.FieldType.char)) ∈ GW := GW_4 0 (List.mem_of_getElem? (i := 95) rfl) rfl
theorem mw816 : (Jvm.Cond.methodLink "MarginnoteLaw" (40 : Nat) ({ cls := "Marginnote", name := "isMarked", desc := "(III)Z" } : Jvm.MethodName)) ∈ GW := GW_4 0 (List.mem_of_getElem? (i := 96) rfl) rfl
theorem mw817 : (Jvm.Cond.instanceMethod ({ cls := "Marginnote", name := "isMarked", desc := "(III)Z" } : Jvm.MethodName)) ∈ GW := GW_4 0 (List.mem_of_getElem? (i := 97) rfl) rfl
theorem mw818 : (Jvm.Cond.selects "Marginnote" ({ cls := "Marginnote", name := "isMarked", desc := "(III)Z" } : Jvm.MethodName) ({ cls := "Marginnote", name := "isMarked", desc := "(III)Z" } : Jvm.MethodName)) ∈ GW := GW_4 0 (List.mem_of_getElem? (i := 98) rfl) rfl
theorem mw819 : (Jvm.Cond.code ({ cls := "Marginnote", name := "isMarked", desc := "(III)Z" } : Jvm.MethodName) prog_1_method_30_code (6 : Nat) (Option.some Jvm.ClassFile.FieldType.boolean)) ∈ GW := GW_4 0 (List.mem_of_getElem? (i := 99) rfl) rfl
theorem mw820 : (Jvm.Cond.methodLink "Marginnote" (288 : Nat) ({ cls := "Marginnote$Paper", name := "hasBit", desc := "(II)Z" } : Jvm.MethodName)) ∈ GW := GW_4 0 (List.mem_of_getElem? (i := 100) rfl) rfl
theorem mw821 : (Jvm.Cond.methodLink "MarginnoteLaw" (145 : Nat) ({ cls := "MarginnoteLaw", name := "isSite", desc := "(LMarginnote;II)Z" } : Jvm.MethodName)) ∈ GW := GW_4 0 (List.mem_of_getElem? (i := 101) rfl) rfl
theorem mw822 : (Jvm.Cond.static ({ cls := "MarginnoteLaw", name := "isSite", desc := "(LMarginnote;II)Z" } : Jvm.MethodName)) ∈ GW := GW_4 0 (List.mem_of_getElem? (i := 102) rfl) rfl
theorem mw823 : (Jvm.Cond.code ({ cls := "MarginnoteLaw", name := "isSite", desc := "(LMarginnote;II)Z" } : Jvm.MethodName) method_5_code (5 : Nat) (Option.some Jvm.ClassFile.FieldType.boolean)) ∈ GW := GW_4 0 (List.mem_of_getElem? (i := 103) rfl) rfl
theorem mw824 : (Jvm.Cond.methodLink "MarginnoteLaw" (50 : Nat) ({ cls := "Marginnote", name := "buried", desc := "(I)I" } : Jvm.MethodName)) ∈ GW := GW_4 0 (List.mem_of_getElem? (i := 104) rfl) rfl
theorem mw825 : (Jvm.Cond.instanceMethod ({ cls := "Marginnote", name := "buried", desc := "(I)I" } : Jvm.MethodName)) ∈ GW := GW_4 0 (List.mem_of_getElem? (i := 105) rfl) rfl
theorem mw826 : (Jvm.Cond.selects "Marginnote" ({ cls := "Marginnote", name := "buried", desc := "(I)I" } : Jvm.MethodName) ({ cls := "Marginnote", name := "buried", desc := "(I)I" } : Jvm.MethodName)) ∈ GW := GW_4 0 (List.mem_of_getElem? (i := 106) rfl) rfl
theorem mw827 : (Jvm.Cond.code ({ cls := "Marginnote", name := "buried", desc := "(I)I" } : Jvm.MethodName) prog_1_method_39_code (6 : Nat) (Option.some Jvm.ClassFile.FieldType.int)) ∈ GW := GW_4 0 (List.mem_of_getElem? (i := 107) rfl) rfl
theorem mw828 : (Jvm.Cond.methodLink "Marginnote" (313 : Nat) ({ cls := "Marginnote", name := "collectHadByAll", desc := "(LMarginnote$Site;)V" } : Jvm.MethodName)) ∈ GW := GW_4 0 (List.mem_of_getElem? (i := 108) rfl) rfl
theorem mw830 : (Jvm.Cond.instanceMethod ({ cls := "Marginnote", name := "collectHadByAll", desc := "(LMarginnote$Site;)V" } : Jvm.MethodName)) ∈ GW := GW_4 0 (List.mem_of_getElem? (i := 110) rfl) rfl
theorem mw831 : (Jvm.Cond.code ({ cls := "Marginnote", name := "collectHadByAll", desc := "(LMarginnote$Site;)V" } : Jvm.MethodName) prog_1_method_63_code (3 : Nat) (Option.none : Option Jvm.ClassFile.FieldType)) ∈ GW := GW_4 0 (List.mem_of_getElem? (i := 111) rfl) rfl
theorem mw832 : (Jvm.Cond.methodLink "Marginnote" (382 : Nat) ({ cls := "Marginnote$Site", name := "knownOf", desc := "(I)I" } : Jvm.MethodName)) ∈ GW := GW_4 0 (List.mem_of_getElem? (i := 112) rfl) rfl
theorem mw833 : (Jvm.Cond.instanceMethod ({ cls := "Marginnote$Site", name := "knownOf", desc := "(I)I" } : Jvm.MethodName)) ∈ GW := GW_4 0 (List.mem_of_getElem? (i := 113) rfl) rfl
theorem mw834 : (Jvm.Cond.selects "Marginnote$Site" ({ cls := "Marginnote$Site", name := "knownOf", desc := "(I)I" } : Jvm.MethodName) ({ cls := "Marginnote$Site", name := "knownOf", desc := "(I)I" } : Jvm.MethodName)) ∈ GW := GW_4 0 (List.mem_of_getElem? (i := 114) rfl) rfl
theorem mw835 : (Jvm.Cond.code ({ cls := "Marginnote$Site", name := "knownOf", desc := "(I)I" } : Jvm.MethodName) prog_6_method_5_code (2 : Nat) (Option.some Jvm.ClassFile.FieldType.int)) ∈ GW := GW_4 0 (List.mem_of_getElem? (i := 115) rfl) rfl
theorem mw836 : (Jvm.Cond.methodLink "Marginnote" (385 : Nat) ({ cls := "Marginnote$Site", name := "countFirst", desc := "(I[I)V" } : Jvm.MethodName)) ∈ GW := GW_4 0 (List.mem_of_getElem? (i := 116) rfl) rfl
theorem mw837 : (Jvm.Cond.instanceMethod ({ cls := "Marginnote$Site", name := "countFirst", desc := "(I[I)V" } : Jvm.MethodName)) ∈ GW := GW_4 0 (List.mem_of_getElem? (i := 117) rfl) rfl
theorem mw838 : (Jvm.Cond.selects "Marginnote$Site" ({ cls := "Marginnote$Site", name := "countFirst", desc := "(I[I)V" } : Jvm.MethodName) ({ cls := "Marginnote$Site", name := "countFirst", desc := "(I[I)V" } : Jvm.MethodName)) ∈ GW := GW_4 0 (List.mem_of_getElem? (i := 118) rfl) rfl
theorem mw839 : (Jvm.Cond.code ({ cls := "Marginnote$Site", name := "countFirst", desc := "(I[I)V" } : Jvm.MethodName) prog_6_method_8_code (5 : Nat) (Option.none : Option Jvm.ClassFile.FieldType)) ∈ GW := GW_4 0 (List.mem_of_getElem? (i := 119) rfl) rfl
theorem mw840 : (Jvm.Cond.methodLink "Marginnote" (389 : Nat) ({ cls := "Marginnote$ActSet", name := "clear", desc := "()V" } : Jvm.MethodName)) ∈ GW := GW_4 0 (List.mem_of_getElem? (i := 120) rfl) rfl
theorem mw841 : (Jvm.Cond.instanceMethod ({ cls := "Marginnote$ActSet", name := "clear", desc := "()V" } : Jvm.MethodName)) ∈ GW := GW_4 0 (List.mem_of_getElem? (i := 121) rfl) rfl
theorem mw842 : (Jvm.Cond.selects "Marginnote$ActSet" ({ cls := "Marginnote$ActSet", name := "clear", desc := "()V" } : Jvm.MethodName) ({ cls := "Marginnote$ActSet", name := "clear", desc := "()V" } : Jvm.MethodName)) ∈ GW := GW_4 0 (List.mem_of_getElem? (i := 122) rfl) rfl
theorem mw843 : (Jvm.Cond.code ({ cls := "Marginnote$ActSet", name := "clear", desc := "()V" } : Jvm.MethodName) prog_2_method_5_code (2 : Nat) (Option.none : Option Jvm.ClassFile.FieldType)) ∈ GW := GW_4 0 (List.mem_of_getElem? (i := 123) rfl) rfl
theorem mw844 : (Jvm.Cond.methodLink "Marginnote" (392 : Nat) ({ cls := "Marginnote$ActSet", name := "add", desc := "(I)V" } : Jvm.MethodName)) ∈ GW := GW_4 0 (List.mem_of_getElem? (i := 124) rfl) rfl
theorem mw845 : (Jvm.Cond.methodLink "Marginnote" (317 : Nat) ({ cls := "Marginnote$Paper", name := "isGrave", desc := "(I)Z" } : Jvm.MethodName)) ∈ GW := GW_4 0 (List.mem_of_getElem? (i := 125) rfl) rfl
theorem mw846 : (Jvm.Cond.instanceMethod ({ cls := "Marginnote$Paper", name := "isGrave", desc := "(I)Z" } : Jvm.MethodName)) ∈ GW := GW_4 0 (List.mem_of_getElem? (i := 126) rfl) rfl
theorem mw847 : (Jvm.Cond.selects "Marginnote$Paper" ({ cls := "Marginnote$Paper", name := "isGrave", desc := "(I)Z" } : Jvm.MethodName) ({ cls := "Marginnote$Paper", name := "isGrave", desc := "(I)Z" } : Jvm.MethodName)) ∈ GW := GW_4 0 (List.mem_of_getElem? (i := 127) rfl) rfl
theorem mw848 : (Jvm.Cond.code ({ cls := "Marginnote$Paper", name := "isGrave", desc := "(I)Z" } : Jvm.MethodName) prog_5_method_24_code (2 : Nat) (Option.some Jvm.ClassFile.FieldType.boolean)) ∈ GW := GW_4 0 (List.mem_of_getElem? (i := 128) rfl) rfl
theorem mw849 : (Jvm.Cond.methodLink "MarginnoteLaw" (53 : Nat) ({ cls := "Marginnote", name := "depth", desc := "(II)I" } : Jvm.MethodName)) ∈ GW := GW_4 0 (List.mem_of_getElem? (i := 129) rfl) rfl
theorem mw850 : (Jvm.Cond.instanceMethod ({ cls := "Marginnote", name := "depth", desc := "(II)I" } : Jvm.MethodName)) ∈ GW := GW_4 0 (List.mem_of_getElem? (i := 130) rfl) rfl
theorem mw851 : (Jvm.Cond.selects "Marginnote" ({ cls := "Marginnote", name := "depth", desc := "(II)I" } : Jvm.MethodName) ({ cls := "Marginnote", name := "depth", desc := "(II)I" } : Jvm.MethodName)) ∈ GW := GW_4 0 (List.mem_of_getElem? (i := 131) rfl) rfl
theorem mw852 : (Jvm.Cond.code ({ cls := "Marginnote", name := "depth", desc := "(II)I" } : Jvm.MethodName) prog_1_method_34_code (4 : Nat) (Option.some Jvm.ClassFile.FieldType.int)) ∈ GW := GW_4 0 (List.mem_of_getElem? (i := 132) rfl) rfl
theorem mw853 : (Jvm.Cond.methodLink "Marginnote" (304 : Nat) ({ cls := "Marginnote$Paper", name := "depthOf", desc := "(I)I" } : Jvm.MethodName)) ∈ GW := GW_4 0 (List.mem_of_getElem? (i := 133) rfl) rfl
theorem mw854 : (Jvm.Cond.instanceMethod ({ cls := "Marginnote$Paper", name := "depthOf", desc := "(I)I" } : Jvm.MethodName)) ∈ GW := GW_4 0 (List.mem_of_getElem? (i := 134) rfl) rfl
theorem mw855 : (Jvm.Cond.selects "Marginnote$Paper" ({ cls := "Marginnote$Paper", name := "depthOf", desc := "(I)I" } : Jvm.MethodName) ({ cls := "Marginnote$Paper", name := "depthOf", desc := "(I)I" } : Jvm.MethodName)) ∈ GW := GW_4 0 (List.mem_of_getElem? (i := 135) rfl) rfl
theorem mw856 : (Jvm.Cond.code ({ cls := "Marginnote$Paper", name := "depthOf", desc := "(I)I" } : Jvm.MethodName) prog_5_method_44_code (5 : Nat) (Option.some Jvm.ClassFile.FieldType.int)) ∈ GW := GW_4 0 (List.mem_of_getElem? (i := 136) rfl) rfl
theorem mw857 : (Jvm.Cond.methodLink "MarginnoteLaw" (59 : Nat) ({ cls := "Marginnote", name := "elementAnew", desc := "(II)I" } : Jvm.MethodName)) ∈ GW := GW_4 0 (List.mem_of_getElem? (i := 137) rfl) rfl
theorem mw858 : (Jvm.Cond.instanceMethod ({ cls := "Marginnote", name := "elementAnew", desc := "(II)I" } : Jvm.MethodName)) ∈ GW := GW_4 0 (List.mem_of_getElem? (i := 138) rfl) rfl
theorem mw859 : (Jvm.Cond.selects "Marginnote" ({ cls := "Marginnote", name := "elementAnew", desc := "(II)I" } : Jvm.MethodName) ({ cls := "Marginnote", name := "elementAnew", desc := "(II)I" } : Jvm.MethodName)) ∈ GW := GW_4 0 (List.mem_of_getElem? (i := 139) rfl) rfl
theorem mw860 : (Jvm.Cond.code ({ cls := "Marginnote", name := "elementAnew", desc := "(II)I" } : Jvm.MethodName) prog_1_method_26_code (3 : Nat) (Option.some Jvm.ClassFile.FieldType.int)) ∈ GW := GW_4 0 (List.mem_of_getElem? (i := 140) rfl) rfl
theorem ms0 : Cond.selects "Marginnote" ⟨"Marginnote", "siteAt", "(I)LMarginnote$Site;"⟩ ⟨"Marginnote", "siteAt", "(I)LMarginnote$Site;"⟩ ∈ GW := GW_s (q := (⟨"Marginnote", "siteAt", "(I)LMarginnote$Site;"⟩, 11)) (show _ ∈ lw_privs from (List.mem_append_left _ (List.mem_of_getElem? (i := 0) rfl))) rfl
theorem ms1 : Cond.selects "java/lang/Throwable" ⟨"java/lang/Throwable", "fillInStackTrace", "(I)Ljava/lang/Throwable;"⟩ ⟨"java/lang/Throwable", "fillInStackTrace", "(I)Ljava/lang/Throwable;"⟩ ∈ GW := GW_s (q := (⟨"java/lang/Throwable", "fillInStackTrace", "(I)Ljava/lang/Throwable;"⟩, 6)) (show _ ∈ lw_privs from (List.mem_append_left _ (List.mem_of_getElem? (i := 1) rfl))) rfl
theorem ms2 : Cond.selects "Marginnote$Paper" ⟨"Marginnote$Paper", "clear", "()V"⟩ ⟨"Marginnote$Paper", "clear", "()V"⟩ ∈ GW := GW_s (q := (⟨"Marginnote$Paper", "clear", "()V"⟩, 12)) (show _ ∈ lw_privs from (List.mem_append_left _ (List.mem_of_getElem? (i := 2) rfl))) rfl
theorem ms3 : Cond.selects "Marginnote$Paper" ⟨"Marginnote$Paper", "findUndone", "(LMarginnote$ActSet;)V"⟩ ⟨"Marginnote$Paper", "findUndone", "(LMarginnote$ActSet;)V"⟩ ∈ GW := GW_s (q := (⟨"Marginnote$Paper", "findUndone", "(LMarginnote$ActSet;)V"⟩, 12)) (show _ ∈ lw_privs from (List.mem_append_left _ (List.mem_of_getElem? (i := 3) rfl))) rfl
theorem ms4 : Cond.selects "Marginnote$Paper" ⟨"Marginnote$Paper", "putElement", "(I)V"⟩ ⟨"Marginnote$Paper", "putElement", "(I)V"⟩ ∈ GW := GW_s (q := (⟨"Marginnote$Paper", "putElement", "(I)V"⟩, 12)) (show _ ∈ lw_privs from (List.mem_append_left _ (List.mem_of_getElem? (i := 4) rfl))) rfl
theorem ms5 : Cond.selects "Marginnote$Paper" ⟨"Marginnote$Paper", "placeOf", "(I)I"⟩ ⟨"Marginnote$Paper", "placeOf", "(I)I"⟩ ∈ GW := GW_s (q := (⟨"Marginnote$Paper", "placeOf", "(I)I"⟩, 12)) (show _ ∈ lw_privs from (List.mem_append_left _ (List.mem_of_getElem? (i := 5) rfl))) rfl
theorem ms6 : Cond.selects "Marginnote$Paper" ⟨"Marginnote$Paper", "inRow", "(I)I"⟩ ⟨"Marginnote$Paper", "inRow", "(I)I"⟩ ∈ GW := GW_s (q := (⟨"Marginnote$Paper", "inRow", "(I)I"⟩, 12)) (show _ ∈ lw_privs from (List.mem_append_left _ (List.mem_of_getElem? (i := 6) rfl))) rfl
theorem ms7 : Cond.selects "Marginnote$Paper" ⟨"Marginnote$Paper", "blockOf", "(I)I"⟩ ⟨"Marginnote$Paper", "blockOf", "(I)I"⟩ ∈ GW := GW_s (q := (⟨"Marginnote$Paper", "blockOf", "(I)I"⟩, 12)) (show _ ∈ lw_privs from (List.mem_append_left _ (List.mem_of_getElem? (i := 7) rfl))) rfl
theorem ms8 : Cond.selects "Marginnote$Paper" ⟨"Marginnote$Paper", "isShownBreak", "(I)Z"⟩ ⟨"Marginnote$Paper", "isShownBreak", "(I)Z"⟩ ∈ GW := GW_s (q := (⟨"Marginnote$Paper", "isShownBreak", "(I)Z"⟩, 12)) (show _ ∈ lw_privs from (List.mem_append_left _ (List.mem_of_getElem? (i := 8) rfl))) rfl
theorem ms9 : Cond.selects "Marginnote$Paper" ⟨"Marginnote$Paper", "bitsOf", "(I)I"⟩ ⟨"Marginnote$Paper", "bitsOf", "(I)I"⟩ ∈ GW := GW_s (q := (⟨"Marginnote$Paper", "bitsOf", "(I)I"⟩, 12)) (show _ ∈ lw_privs from (List.mem_append_left _ (List.mem_of_getElem? (i := 9) rfl))) rfl
theorem ms10 : Cond.selects "Marginnote$Paper" ⟨"Marginnote$Paper", "removeElement", "(I)V"⟩ ⟨"Marginnote$Paper", "removeElement", "(I)V"⟩ ∈ GW := GW_s (q := (⟨"Marginnote$Paper", "removeElement", "(I)V"⟩, 12)) (show _ ∈ lw_privs from (List.mem_append_left _ (List.mem_of_getElem? (i := 10) rfl))) rfl
theorem ms11 : Cond.selects "Marginnote$Paper" ⟨"Marginnote$Paper", "restoreElement", "(I)V"⟩ ⟨"Marginnote$Paper", "restoreElement", "(I)V"⟩ ∈ GW := GW_s (q := (⟨"Marginnote$Paper", "restoreElement", "(I)V"⟩, 12)) (show _ ∈ lw_privs from (List.mem_append_left _ (List.mem_of_getElem? (i := 11) rfl))) rfl
theorem ms12 : Cond.selects "Marginnote$Paper" ⟨"Marginnote$Paper", "paint", "(IIZ)V"⟩ ⟨"Marginnote$Paper", "paint", "(IIZ)V"⟩ ∈ GW := GW_s (q := (⟨"Marginnote$Paper", "paint", "(IIZ)V"⟩, 12)) (show _ ∈ lw_privs from (List.mem_append_left _ (List.mem_of_getElem? (i := 12) rfl))) rfl
theorem ms13 : Cond.selects "Marginnote$Paper" ⟨"Marginnote$Paper", "giveKind", "(I)V"⟩ ⟨"Marginnote$Paper", "giveKind", "(I)V"⟩ ∈ GW := GW_s (q := (⟨"Marginnote$Paper", "giveKind", "(I)V"⟩, 12)) (show _ ∈ lw_privs from (List.mem_append_left _ (List.mem_of_getElem? (i := 13) rfl))) rfl
theorem ms14 : Cond.selects "Marginnote$Paper" ⟨"Marginnote$Paper", "putUnder", "(I)V"⟩ ⟨"Marginnote$Paper", "putUnder", "(I)V"⟩ ∈ GW := GW_s (q := (⟨"Marginnote$Paper", "putUnder", "(I)V"⟩, 12)) (show _ ∈ lw_privs from (List.mem_append_left _ (List.mem_of_getElem? (i := 14) rfl))) rfl
theorem ms15 : Cond.selects "Marginnote$Paper" ⟨"Marginnote$Paper", "comesTo", "(II)Z"⟩ ⟨"Marginnote$Paper", "comesTo", "(II)Z"⟩ ∈ GW := GW_s (q := (⟨"Marginnote$Paper", "comesTo", "(II)Z"⟩, 12)) (show _ ∈ lw_privs from (List.mem_append_left _ (List.mem_of_getElem? (i := 15) rfl))) rfl
theorem ms16 : Cond.selects "Marginnote$Paper" ⟨"Marginnote$Paper", "settle", "(I)V"⟩ ⟨"Marginnote$Paper", "settle", "(I)V"⟩ ∈ GW := GW_s (q := (⟨"Marginnote$Paper", "settle", "(I)V"⟩, 12)) (show _ ∈ lw_privs from (List.mem_append_right _ (List.mem_of_getElem? (i := 0) rfl))) rfl
theorem ms17 : Cond.selects "Marginnote$Paper" ⟨"Marginnote$Paper", "elementOf", "(I)I"⟩ ⟨"Marginnote$Paper", "elementOf", "(I)I"⟩ ∈ GW := GW_s (q := (⟨"Marginnote$Paper", "elementOf", "(I)I"⟩, 12)) (show _ ∈ lw_privs from (List.mem_append_right _ (List.mem_of_getElem? (i := 1) rfl))) rfl
theorem ms18 : Cond.selects "Marginnote$Paper" ⟨"Marginnote$Paper", "isOpen", "(I)Z"⟩ ⟨"Marginnote$Paper", "isOpen", "(I)Z"⟩ ∈ GW := GW_s (q := (⟨"Marginnote$Paper", "isOpen", "(I)Z"⟩, 12)) (show _ ∈ lw_privs from (List.mem_append_right _ (List.mem_of_getElem? (i := 2) rfl))) rfl
theorem ms19 : Cond.selects "Marginnote$Paper" ⟨"Marginnote$Paper", "giveLevel", "(I)V"⟩ ⟨"Marginnote$Paper", "giveLevel", "(I)V"⟩ ∈ GW := GW_s (q := (⟨"Marginnote$Paper", "giveLevel", "(I)V"⟩, 12)) (show _ ∈ lw_privs from (List.mem_append_right _ (List.mem_of_getElem? (i := 3) rfl))) rfl
theorem ms20 : Cond.selects "Marginnote" ⟨"Marginnote", "writeBehindCursor", "(LMarginnote$Site;LMarginnote$Paper;IC)I"⟩ ⟨"Marginnote", "writeBehindCursor", "(LMarginnote$Site;LMarginnote$Paper;IC)I"⟩ ∈ GW := GW_s (q := (⟨"Marginnote", "writeBehindCursor", "(LMarginnote$Site;LMarginnote$Paper;IC)I"⟩, 11)) (show _ ∈ lw_privs from (List.mem_append_right _ (List.mem_of_getElem? (i := 4) rfl))) rfl
theorem ms21 : Cond.selects "Marginnote" ⟨"Marginnote", "checkRoomFor", "(I)V"⟩ ⟨"Marginnote", "checkRoomFor", "(I)V"⟩ ∈ GW := GW_s (q := (⟨"Marginnote", "checkRoomFor", "(I)V"⟩, 11)) (show _ ∈ lw_privs from (List.mem_append_right _ (List.mem_of_getElem? (i := 5) rfl))) rfl
theorem ms22 : Cond.selects "Marginnote" ⟨"Marginnote", "make", "(LMarginnote$Site;IIIIZ)I"⟩ ⟨"Marginnote", "make", "(LMarginnote$Site;IIIIZ)I"⟩ ∈ GW := GW_s (q := (⟨"Marginnote", "make", "(LMarginnote$Site;IIIIZ)I"⟩, 11)) (show _ ∈ lw_privs from (List.mem_append_right _ (List.mem_of_getElem? (i := 6) rfl))) rfl
theorem ms23 : Cond.selects "Marginnote$Book" ⟨"Marginnote$Book", "putInOrder", "(I)V"⟩ ⟨"Marginnote$Book", "putInOrder", "(I)V"⟩ ∈ GW := GW_s (q := (⟨"Marginnote$Book", "putInOrder", "(I)V"⟩, 10)) (show _ ∈ lw_privs from (List.mem_append_right _ (List.mem_of_getElem? (i := 7) rfl))) rfl
theorem ms24 : Cond.selects "Marginnote$Book" ⟨"Marginnote$Book", "comesBefore", "(II)Z"⟩ ⟨"Marginnote$Book", "comesBefore", "(II)Z"⟩ ∈ GW := GW_s (q := (⟨"Marginnote$Book", "comesBefore", "(II)Z"⟩, 10)) (show _ ∈ lw_privs from (List.mem_append_right _ (List.mem_of_getElem? (i := 8) rfl))) rfl
theorem ms25 : Cond.selects "Marginnote" ⟨"Marginnote", "writeOnSelection", "(LMarginnote$Site;LMarginnote$Paper;IIZ)I"⟩ ⟨"Marginnote", "writeOnSelection", "(LMarginnote$Site;LMarginnote$Paper;IIZ)I"⟩ ∈ GW := GW_s (q := (⟨"Marginnote", "writeOnSelection", "(LMarginnote$Site;LMarginnote$Paper;IIZ)I"⟩, 11)) (show _ ∈ lw_privs from (List.mem_append_right _ (List.mem_of_getElem? (i := 9) rfl))) rfl
theorem ms26 : Cond.selects "Marginnote" ⟨"Marginnote", "checkMayWriteIn", "(LMarginnote$Paper;LMarginnote$Site;I)V"⟩ ⟨"Marginnote", "checkMayWriteIn", "(LMarginnote$Paper;LMarginnote$Site;I)V"⟩ ∈ GW := GW_s (q := (⟨"Marginnote", "checkMayWriteIn", "(LMarginnote$Paper;LMarginnote$Site;I)V"⟩, 11)) (show _ ∈ lw_privs from (List.mem_append_right _ (List.mem_of_getElem? (i := 10) rfl))) rfl
theorem ms27 : Cond.selects "Marginnote" ⟨"Marginnote", "lastNotUndone", "(LMarginnote$Site;LMarginnote$Paper;)I"⟩ ⟨"Marginnote", "lastNotUndone", "(LMarginnote$Site;LMarginnote$Paper;)I"⟩ ∈ GW := GW_s (q := (⟨"Marginnote", "lastNotUndone", "(LMarginnote$Site;LMarginnote$Paper;)I"⟩, 11)) (show _ ∈ lw_privs from (List.mem_append_right _ (List.mem_of_getElem? (i := 11) rfl))) rfl
theorem ms28 : Cond.selects "Marginnote" ⟨"Marginnote", "madeAndHas", "(LMarginnote$Site;I)Z"⟩ ⟨"Marginnote", "madeAndHas", "(LMarginnote$Site;I)Z"⟩ ∈ GW := GW_s (q := (⟨"Marginnote", "madeAndHas", "(LMarginnote$Site;I)Z"⟩, 11)) (show _ ∈ lw_privs from (List.mem_append_right _ (List.mem_of_getElem? (i := 12) rfl))) rfl
theorem ms29 : Cond.selects "Marginnote" ⟨"Marginnote", "lastToRedo", "(LMarginnote$Site;LMarginnote$Paper;)I"⟩ ⟨"Marginnote", "lastToRedo", "(LMarginnote$Site;LMarginnote$Paper;)I"⟩ ∈ GW := GW_s (q := (⟨"Marginnote", "lastToRedo", "(LMarginnote$Site;LMarginnote$Paper;)I"⟩, 11)) (show _ ∈ lw_privs from (List.mem_append_right _ (List.mem_of_getElem? (i := 13) rfl))) rfl
theorem ms30 : Cond.selects "Marginnote" ⟨"Marginnote", "messageAt", "(I)LMarginnote$Message;"⟩ ⟨"Marginnote", "messageAt", "(I)LMarginnote$Message;"⟩ ∈ GW := GW_s (q := (⟨"Marginnote", "messageAt", "(I)LMarginnote$Message;"⟩, 11)) (show _ ∈ lw_privs from (List.mem_append_right _ (List.mem_of_getElem? (i := 14) rfl))) rfl
theorem ms31 : Cond.selects "Marginnote" ⟨"Marginnote", "collectHadByAll", "(LMarginnote$Site;)V"⟩ ⟨"Marginnote", "collectHadByAll", "(LMarginnote$Site;)V"⟩ ∈ GW := GW_s (q := (⟨"Marginnote", "collectHadByAll", "(LMarginnote$Site;)V"⟩, 11)) (show _ ∈ lw_privs from (List.mem_append_right _ (List.mem_of_getElem? (i := 15) rfl))) rfl
theorem i_X0 : ∀ w ∈ u_ws RX0 TX0 2, w ∈ GW := by
  intro w h
  obtain ⟨k, hk, rfl⟩ := List.mem_map.mp h
  have hk := List.mem_range.mp hk
  rcases (show k = 0 ∨ k = 1 by omega) with rfl | rfl
  · exact mw82
  · exact mw84
theorem i_X1 : ∀ w ∈ u_ws RX1 TX1 10, w ∈ GW := by
  intro w h
  obtain ⟨k, hk, rfl⟩ := List.mem_map.mp h
  have hk := List.mem_range.mp hk
  rcases (show k = 0 ∨ k = 1 ∨ k = 2 ∨ k = 3 ∨ k = 4 ∨ k = 5 ∨ k = 6 ∨ k = 7 ∨ k = 8 ∨ k = 9 by omega) with rfl | rfl | rfl | rfl | rfl | rfl | rfl | rfl | rfl | rfl
  · exact mw42
  · exact mw44
  · exact mw46
  · exact mw48
  · exact mw50
  · exact mw52
  · exact mw54
  · exact mw56
  · exact mw58
  · exact mw60
theorem i_X2 : ∀ w ∈ u_ws RX2 TX2 3, w ∈ GW := by
  intro w h
  obtain ⟨k, hk, rfl⟩ := List.mem_map.mp h
  have hk := List.mem_range.mp hk
  rcases (show k = 0 ∨ k = 1 ∨ k = 2 by omega) with rfl | rfl | rfl
  · exact mw673
  · exact mw675
  · exact mw677
theorem i_X3 : ∀ w ∈ u_ws RX3 TX3 12, w ∈ GW := by
  intro w h
  obtain ⟨k, hk, rfl⟩ := List.mem_map.mp h
  have hk := List.mem_range.mp hk
  rcases (show k = 0 ∨ k = 1 ∨ k = 2 ∨ k = 3 ∨ k = 4 ∨ k = 5 ∨ k = 6 ∨ k = 7 ∨ k = 8 ∨ k = 9 ∨ k = 10 ∨ k = 11 by omega) with rfl | rfl | rfl | rfl | rfl | rfl | rfl | rfl | rfl | rfl | rfl | rfl
  · exact mw107
  · exact mw109
  · exact mw111
  · exact mw113
  · exact mw115
  · exact mw117
  · exact mw119
  · exact mw121
  · exact mw123
  · exact mw125
  · exact mw127
  · exact mw129
theorem i_X4 : ∀ w ∈ u_ws RX4 TX4 10, w ∈ GW := by
  intro w h
  obtain ⟨k, hk, rfl⟩ := List.mem_map.mp h
  have hk := List.mem_range.mp hk
  rcases (show k = 0 ∨ k = 1 ∨ k = 2 ∨ k = 3 ∨ k = 4 ∨ k = 5 ∨ k = 6 ∨ k = 7 ∨ k = 8 ∨ k = 9 by omega) with rfl | rfl | rfl | rfl | rfl | rfl | rfl | rfl | rfl | rfl
  · exact mw151
  · exact mw153
  · exact mw155
  · exact mw157
  · exact mw159
  · exact mw161
  · exact mw163
  · exact mw165
  · exact mw167
  · exact mw169
theorem i_X5 : ∀ w ∈ u_ws RX5 TX5 11, w ∈ GW := by
  intro w h
  obtain ⟨k, hk, rfl⟩ := List.mem_map.mp h
  have hk := List.mem_range.mp hk
  rcases (show k = 0 ∨ k = 1 ∨ k = 2 ∨ k = 3 ∨ k = 4 ∨ k = 5 ∨ k = 6 ∨ k = 7 ∨ k = 8 ∨ k = 9 ∨ k = 10 by omega) with rfl | rfl | rfl | rfl | rfl | rfl | rfl | rfl | rfl | rfl | rfl
  · exact mw189
  · exact mw191
  · exact mw193
  · exact mw195
  · exact mw197
  · exact mw199
  · exact mw201
  · exact mw203
  · exact mw205
  · exact mw207
  · exact mw209
