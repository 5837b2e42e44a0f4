/-! names, fields, words: written by program out of the task's own tables -/
abbrev RX0 : String := "Marginnote$ActSet"
def TX0 : u_T := fun k => match k with
  | 0 => ("Marginnote$ActSet", "members", "[Z", true)
  | _ => ("Marginnote$ActSet", "size", "I", false)
def tyX0 : Nat → FieldType := fun k => match k with
  | 0 => .array .boolean
  | _ => .int
theorem nmX0 : ∀ a, a < 2 → ∀ b, b < 2 → a ≠ b → (TX0 a).2.1 ≠ (TX0 b).2.1 := by decide +kernel
theorem tyX0_ok : ∀ k, k < 2 → parseFieldDescriptor (TX0 k).2.2.1 = some (tyX0 k) := by decide +kernel
abbrev RX1 : String := "Marginnote$Book"
def TX1 : u_T := fun k => match k with
  | 0 => ("Marginnote$Book", "writers", "[I", true)
  | 1 => ("Marginnote$Book", "counts", "[I", true)
  | 2 => ("Marginnote$Book", "kinds", "[I", true)
  | 3 => ("Marginnote$Book", "firsts", "[I", true)
  | 4 => ("Marginnote$Book", "seconds", "[I", true)
  | 5 => ("Marginnote$Book", "values", "[I", true)
  | 6 => ("Marginnote$Book", "flags", "[Z", true)
  | 7 => ("Marginnote$Book", "order", "[I", true)
  | 8 => ("Marginnote$Book", "made", "I", false)
  | _ => ("Marginnote$Book", "comments", "I", false)
def tyX1 : Nat → FieldType := fun k => match k with
  | 0 => .array .int
  | 1 => .array .int
  | 2 => .array .int
  | 3 => .array .int
  | 4 => .array .int
  | 5 => .array .int
  | 6 => .array .boolean
  | 7 => .array .int
  | 8 => .int
  | _ => .int
theorem nmX1 : ∀ a, a < 10 → ∀ b, b < 10 → a ≠ b → (TX1 a).2.1 ≠ (TX1 b).2.1 := by decide +kernel
theorem tyX1_ok : ∀ k, k < 10 → parseFieldDescriptor (TX1 k).2.2.1 = some (tyX1 k) := by decide +kernel
abbrev RX2 : String := "Marginnote$Message"
def TX2 : u_T := fun k => match k with
  | 0 => ("Marginnote$Message", "receiver", "I", true)
  | 1 => ("Marginnote$Message", "acts", "LMarginnote$ActSet;", true)
  | _ => ("Marginnote$Message", "known", "[I", true)
def tyX2 : Nat → FieldType := fun k => match k with
  | 0 => .int
  | 1 => .object "Marginnote$ActSet"
  | _ => .array .int
theorem nmX2 : ∀ a, a < 3 → ∀ b, b < 3 → a ≠ b → (TX2 a).2.1 ≠ (TX2 b).2.1 := by decide +kernel
theorem tyX2_ok : ∀ k, k < 3 → parseFieldDescriptor (TX2 k).2.2.1 = some (tyX2 k) := by decide +kernel
abbrev RX3 : String := "Marginnote$Paper"
def TX3 : u_T := fun k => match k with
  | 0 => ("Marginnote$Paper", "book", "LMarginnote$Book;", true)
  | 1 => ("Marginnote$Paper", "row", "[I", true)
  | 2 => ("Marginnote$Paper", "rowSize", "I", false)
  | 3 => ("Marginnote$Paper", "states", "[I", true)
  | 4 => ("Marginnote$Paper", "breaks", "[Z", true)
  | 5 => ("Marginnote$Paper", "removed", "[Z", true)
  | 6 => ("Marginnote$Paper", "bits", "[I", true)
  | 7 => ("Marginnote$Paper", "asked", "[Z", true)
  | 8 => ("Marginnote$Paper", "undone", "[Z", true)
  | 9 => ("Marginnote$Paper", "kinds", "[I", true)
  | 10 => ("Marginnote$Paper", "aboves", "[I", true)
  | _ => ("Marginnote$Paper", "levels", "[[I", true)
def tyX3 : Nat → FieldType := fun k => match k with
  | 0 => .object "Marginnote$Book"
  | 1 => .array .int
  | 2 => .int
  | 3 => .array .int
  | 4 => .array .boolean
  | 5 => .array .boolean
  | 6 => .array .int
  | 7 => .array .boolean
  | 8 => .array .boolean
  | 9 => .array .int
  | 10 => .array .int
  | _ => .array (.array .int)
theorem nmX3 : ∀ a, a < 12 → ∀ b, b < 12 → a ≠ b → (TX3 a).2.1 ≠ (TX3 b).2.1 := by decide +kernel
theorem tyX3_ok : ∀ k, k < 12 → parseFieldDescriptor (TX3 k).2.2.1 = some (tyX3 k) := by decide +kernel
abbrev RX4 : String := "Marginnote$Site"
def TX4 : u_T := fun k => match k with
  | 0 => ("Marginnote$Site", "number", "I", true)
  | 1 => ("Marginnote$Site", "held", "LMarginnote$ActSet;", true)
  | 2 => ("Marginnote$Site", "journal", "[I", true)
  | 3 => ("Marginnote$Site", "known", "[I", true)
  | 4 => ("Marginnote$Site", "paper", "LMarginnote$Paper;", true)
  | 5 => ("Marginnote$Site", "fresh", "Z", false)
  | 6 => ("Marginnote$Site", "proposing", "Z", false)
  | 7 => ("Marginnote$Site", "clock", "I", false)
  | 8 => ("Marginnote$Site", "cursor", "I", false)
  | _ => ("Marginnote$Site", "tail", "I", false)
def tyX4 : Nat → FieldType := fun k => match k with
  | 0 => .int
  | 1 => .object "Marginnote$ActSet"
  | 2 => .array .int
  | 3 => .array .int
  | 4 => .object "Marginnote$Paper"
  | 5 => .boolean
  | 6 => .boolean
  | 7 => .int
  | 8 => .int
  | _ => .int
theorem nmX4 : ∀ a, a < 10 → ∀ b, b < 10 → a ≠ b → (TX4 a).2.1 ≠ (TX4 b).2.1 := by decide +kernel
theorem tyX4_ok : ∀ k, k < 10 → parseFieldDescriptor (TX4 k).2.2.1 = some (tyX4 k) := by decide +kernel
abbrev RX5 : String := "Marginnote"
def TX5 : u_T := fun k => match k with
  | 0 => ("Marginnote", "book", "LMarginnote$Book;", true)
  | 1 => ("Marginnote", "sites", "[LMarginnote$Site;", true)
  | 2 => ("Marginnote", "messages", "[LMarginnote$Message;", true)
  | 3 => ("Marginnote", "versions", "[LMarginnote$ActSet;", true)
  | 4 => ("Marginnote", "scratch", "LMarginnote$Paper;", true)
  | 5 => ("Marginnote", "otherScratch", "LMarginnote$Paper;", true)
  | 6 => ("Marginnote", "scratchSet", "LMarginnote$ActSet;", true)
  | 7 => ("Marginnote", "picked", "[I", true)
  | 8 => ("Marginnote", "owners", "[I", true)
  | 9 => ("Marginnote", "messageCount", "I", false)
  | _ => ("Marginnote", "versionCount", "I", false)
def tyX5 : Nat → FieldType := fun k => match k with
  | 0 => .object "Marginnote$Book"
  | 1 => .array (.object "Marginnote$Site")
  | 2 => .array (.object "Marginnote$Message")
  | 3 => .array (.object "Marginnote$ActSet")
  | 4 => .object "Marginnote$Paper"
  | 5 => .object "Marginnote$Paper"
  | 6 => .object "Marginnote$ActSet"
  | 7 => .array .int
  | 8 => .array .int
  | 9 => .int
  | _ => .int
theorem nmX5 : ∀ a, a < 11 → ∀ b, b < 11 → a ≠ b → (TX5 a).2.1 ≠ (TX5 b).2.1 := by decide +kernel
theorem tyX5_ok : ∀ k, k < 11 → parseFieldDescriptor (TX5 k).2.2.1 = some (tyX5 k) := by decide +kernel
abbrev RX6 : String := "MarginnoteModel"
def TX6 : u_T := fun k => match k with
  | 0 => ("MarginnoteModel", "thrown", "I", false)
  | 1 => ("MarginnoteModel", "actMany", "I", false)
  | 2 => ("MarginnoteModel", "makers", "[I", true)
  | 3 => ("MarginnoteModel", "counts", "[I", true)
  | 4 => ("MarginnoteModel", "kinds", "[I", true)
  | 5 => ("MarginnoteModel", "ones", "[I", true)
  | 6 => ("MarginnoteModel", "twos", "[I", true)
  | 7 => ("MarginnoteModel", "threes", "[I", true)
  | 8 => ("MarginnoteModel", "fours", "[I", true)
  | 9 => ("MarginnoteModel", "areProposals", "[Z", true)
  | 10 => ("MarginnoteModel", "commentMany", "I", false)
  | 11 => ("MarginnoteModel", "commentOf", "[I", true)
  | 12 => ("MarginnoteModel", "has", "[Z", true)
  | 13 => ("MarginnoteModel", "journals", "[I", true)
  | 14 => ("MarginnoteModel", "journalMany", "[I", true)
  | 15 => ("MarginnoteModel", "safeMany", "[I", true)
  | 16 => ("MarginnoteModel", "tops", "[I", true)
  | 17 => ("MarginnoteModel", "cursors", "[I", true)
  | 18 => ("MarginnoteModel", "tails", "[I", true)
  | 19 => ("MarginnoteModel", "propose", "[Z", true)
  | 20 => ("MarginnoteModel", "knows", "[Z", true)
  | 21 => ("MarginnoteModel", "messageMany", "I", false)
  | 22 => ("MarginnoteModel", "senders", "[I", true)
  | 23 => ("MarginnoteModel", "receivers", "[I", true)
  | 24 => ("MarginnoteModel", "sent", "[Z", true)
  | 25 => ("MarginnoteModel", "told", "[Z", true)
  | 26 => ("MarginnoteModel", "versionMany", "I", false)
  | 27 => ("MarginnoteModel", "versions", "[Z", true)
  | 28 => ("MarginnoteModel", "in", "[Z", true)
  | 29 => ("MarginnoteModel", "orderMany", "I", false)
  | 30 => ("MarginnoteModel", "order", "[I", true)
  | 31 => ("MarginnoteModel", "undone", "[Z", true)
  | 32 => ("MarginnoteModel", "rowMany", "I", false)
  | 33 => ("MarginnoteModel", "row", "[I", true)
  | 34 => ("MarginnoteModel", "states", "[I", true)
  | 35 => ("MarginnoteModel", "removed", "[Z", true)
  | 36 => ("MarginnoteModel", "marks", "[I", true)
  | 37 => ("MarginnoteModel", "covers", "[I", true)
  | 38 => ("MarginnoteModel", "waits", "[Z", true)
  | 39 => ("MarginnoteModel", "blockKinds", "[I", true)
  | 40 => ("MarginnoteModel", "aboves", "[I", true)
  | 41 => ("MarginnoteModel", "levels", "[I", true)
  | 42 => ("MarginnoteModel", "kept", "[Z", true)
  | 43 => ("MarginnoteModel", "erased", "[I", true)
  | _ => ("MarginnoteModel", "asked", "[Z", true)
def tyX6 : Nat → FieldType := fun k => match k with
  | 0 => .int
  | 1 => .int
  | 2 => .array .int
  | 3 => .array .int
  | 4 => .array .int
  | 5 => .array .int
  | 6 => .array .int
  | 7 => .array .int
  | 8 => .array .int
  | 9 => .array .boolean
  | 10 => .int
  | 11 => .array .int
  | 12 => .array .boolean
  | 13 => .array .int
  | 14 => .array .int
  | 15 => .array .int
  | 16 => .array .int
  | 17 => .array .int
  | 18 => .array .int
  | 19 => .array .boolean
  | 20 => .array .boolean
  | 21 => .int
  | 22 => .array .int
  | 23 => .array .int
  | 24 => .array .boolean
  | 25 => .array .boolean
  | 26 => .int
  | 27 => .array .boolean
  | 28 => .array .boolean
  | 29 => .int
  | 30 => .array .int
  | 31 => .array .boolean
  | 32 => .int
  | 33 => .array .int
  | 34 => .array .int
  | 35 => .array .boolean
  | 36 => .array .int
  | 37 => .array .int
  | 38 => .array .boolean
  | 39 => .array .int
  | 40 => .array .int
  | 41 => .array .int
  | 42 => .array .boolean
  | 43 => .array .int
  | _ => .array .boolean
theorem nmX6 : ∀ a, a < 45 → ∀ b, b < 45 → a ≠ b → (TX6 a).2.1 ≠ (TX6 b).2.1 := by decide +kernel
theorem tyX6_ok : ∀ k, k < 45 → parseFieldDescriptor (TX6 k).2.2.1 = some (tyX6 k) := by decide +kernel
abbrev RL : String := "MarginnoteLaw"
abbrev cX0_init : ByteArray := prog_2_method_1_code
abbrev yX0_init : MethodName := ⟨"Marginnote$ActSet", "<init>", "()V"⟩
abbrev cX0_contains : ByteArray := prog_2_method_2_code
abbrev yX0_contains : MethodName := ⟨"Marginnote$ActSet", "contains", "(I)Z"⟩
abbrev cX0_add : ByteArray := prog_2_method_3_code
abbrev yX0_add : MethodName := ⟨"Marginnote$ActSet", "add", "(I)V"⟩
abbrev cX0_drop : ByteArray := prog_2_method_4_code
abbrev yX0_drop : MethodName := ⟨"Marginnote$ActSet", "drop", "(I)V"⟩
abbrev cX0_clear : ByteArray := prog_2_method_5_code
abbrev yX0_clear : MethodName := ⟨"Marginnote$ActSet", "clear", "()V"⟩
abbrev cX0_copyFrom : ByteArray := prog_2_method_6_code
abbrev yX0_copyFrom : MethodName := ⟨"Marginnote$ActSet", "copyFrom", "(LMarginnote$ActSet;)V"⟩
abbrev cX0_containsAll : ByteArray := prog_2_method_7_code
abbrev yX0_containsAll : MethodName := ⟨"Marginnote$ActSet", "containsAll", "(LMarginnote$ActSet;)Z"⟩
abbrev cX1_init : ByteArray := prog_3_method_1_code
abbrev yX1_init : MethodName := ⟨"Marginnote$Book", "<init>", "()V"⟩
abbrev cX1_enter : ByteArray := prog_3_method_2_code
abbrev yX1_enter : MethodName := ⟨"Marginnote$Book", "enter", "(IIIIIIZ)I"⟩
abbrev cX1_putInOrder : ByteArray := prog_3_method_3_code
abbrev yX1_putInOrder : MethodName := ⟨"Marginnote$Book", "putInOrder", "(I)V"⟩
abbrev cX1_comesBefore : ByteArray := prog_3_method_4_code
abbrev yX1_comesBefore : MethodName := ⟨"Marginnote$Book", "comesBefore", "(II)Z"⟩
abbrev cX1_inOrder : ByteArray := prog_3_method_5_code
abbrev yX1_inOrder : MethodName := ⟨"Marginnote$Book", "inOrder", "(I)I"⟩
abbrev cX1_siteOf : ByteArray := prog_3_method_6_code
abbrev yX1_siteOf : MethodName := ⟨"Marginnote$Book", "siteOf", "(I)I"⟩
abbrev cX1_countOf : ByteArray := prog_3_method_7_code
abbrev yX1_countOf : MethodName := ⟨"Marginnote$Book", "countOf", "(I)I"⟩
abbrev cX1_kindOf : ByteArray := prog_3_method_8_code
abbrev yX1_kindOf : MethodName := ⟨"Marginnote$Book", "kindOf", "(I)I"⟩
abbrev cX1_firstOf : ByteArray := prog_3_method_9_code
abbrev yX1_firstOf : MethodName := ⟨"Marginnote$Book", "firstOf", "(I)I"⟩
abbrev cX1_secondOf : ByteArray := prog_3_method_10_code
abbrev yX1_secondOf : MethodName := ⟨"Marginnote$Book", "secondOf", "(I)I"⟩
abbrev cX1_valueOf : ByteArray := prog_3_method_11_code
abbrev yX1_valueOf : MethodName := ⟨"Marginnote$Book", "valueOf", "(I)I"⟩
abbrev cX1_flagOf : ByteArray := prog_3_method_12_code
abbrev yX1_flagOf : MethodName := ⟨"Marginnote$Book", "flagOf", "(I)Z"⟩
abbrev cX1_makesElement : ByteArray := prog_3_method_13_code
abbrev yX1_makesElement : MethodName := ⟨"Marginnote$Book", "makesElement", "(I)Z"⟩
abbrev cX1_isUndoable : ByteArray := prog_3_method_14_code
abbrev yX1_isUndoable : MethodName := ⟨"Marginnote$Book", "isUndoable", "(I)Z"⟩
abbrev cX2_init : ByteArray := prog_4_method_1_code
abbrev yX2_init : MethodName := ⟨"Marginnote$Message", "<init>", "(LMarginnote$Site;I)V"⟩
abbrev cX3_init : ByteArray := prog_5_method_1_code
abbrev yX3_init : MethodName := ⟨"Marginnote$Paper", "<init>", "(LMarginnote$Book;)V"⟩
abbrev cX3_clear : ByteArray := prog_5_method_2_code
abbrev yX3_clear : MethodName := ⟨"Marginnote$Paper", "clear", "()V"⟩
abbrev cX3_doAll : ByteArray := prog_5_method_3_code
abbrev yX3_doAll : MethodName := ⟨"Marginnote$Paper", "doAll", "(LMarginnote$ActSet;)V"⟩
abbrev cX3_findUndone : ByteArray := prog_5_method_4_code
abbrev yX3_findUndone : MethodName := ⟨"Marginnote$Paper", "findUndone", "(LMarginnote$ActSet;)V"⟩
abbrev cX3_perform : ByteArray := prog_5_method_5_code
abbrev yX3_perform : MethodName := ⟨"Marginnote$Paper", "perform", "(I)V"⟩
abbrev cX3_putElement : ByteArray := prog_5_method_6_code
abbrev yX3_putElement : MethodName := ⟨"Marginnote$Paper", "putElement", "(I)V"⟩
abbrev cX3_removeElement : ByteArray := prog_5_method_7_code
abbrev yX3_removeElement : MethodName := ⟨"Marginnote$Paper", "removeElement", "(I)V"⟩
abbrev cX3_restoreElement : ByteArray := prog_5_method_8_code
abbrev yX3_restoreElement : MethodName := ⟨"Marginnote$Paper", "restoreElement", "(I)V"⟩
abbrev cX3_paint : ByteArray := prog_5_method_9_code
abbrev yX3_paint : MethodName := ⟨"Marginnote$Paper", "paint", "(IIZ)V"⟩
abbrev cX3_giveKind : ByteArray := prog_5_method_10_code
abbrev yX3_giveKind : MethodName := ⟨"Marginnote$Paper", "giveKind", "(I)V"⟩
abbrev cX3_putUnder : ByteArray := prog_5_method_11_code
abbrev yX3_putUnder : MethodName := ⟨"Marginnote$Paper", "putUnder", "(I)V"⟩
abbrev cX3_comesTo : ByteArray := prog_5_method_12_code
abbrev yX3_comesTo : MethodName := ⟨"Marginnote$Paper", "comesTo", "(II)Z"⟩
abbrev cX3_settle : ByteArray := prog_5_method_13_code
abbrev yX3_settle : MethodName := ⟨"Marginnote$Paper", "settle", "(I)V"⟩
abbrev cX3_giveLevel : ByteArray := prog_5_method_14_code
abbrev yX3_giveLevel : MethodName := ⟨"Marginnote$Paper", "giveLevel", "(I)V"⟩
abbrev cX3_isNumber : ByteArray := prog_5_method_15_code
abbrev yX3_isNumber : MethodName := ⟨"Marginnote$Paper", "isNumber", "(I)Z"⟩
abbrev cX3_wasUndone : ByteArray := prog_5_method_16_code
abbrev yX3_wasUndone : MethodName := ⟨"Marginnote$Paper", "wasUndone", "(I)Z"⟩
abbrev cX3_mayDecide : ByteArray := prog_5_method_17_code
abbrev yX3_mayDecide : MethodName := ⟨"Marginnote$Paper", "mayDecide", "(II)Z"⟩
abbrev cX3_elementOf : ByteArray := prog_5_method_18_code
abbrev yX3_elementOf : MethodName := ⟨"Marginnote$Paper", "elementOf", "(I)I"⟩
abbrev cX3_isOpen : ByteArray := prog_5_method_19_code
abbrev yX3_isOpen : MethodName := ⟨"Marginnote$Paper", "isOpen", "(I)Z"⟩
abbrev cX3_countOpen : ByteArray := prog_5_method_20_code
abbrev yX3_countOpen : MethodName := ⟨"Marginnote$Paper", "countOpen", "()I"⟩
abbrev cX3_proposalsFor : ByteArray := prog_5_method_21_code
abbrev yX3_proposalsFor : MethodName := ⟨"Marginnote$Paper", "proposalsFor", "(I)I"⟩
abbrev cX3_isSeen : ByteArray := prog_5_method_22_code
abbrev yX3_isSeen : MethodName := ⟨"Marginnote$Paper", "isSeen", "(I)Z"⟩
abbrev cX3_isShown : ByteArray := prog_5_method_23_code
abbrev yX3_isShown : MethodName := ⟨"Marginnote$Paper", "isShown", "(I)Z"⟩
abbrev cX3_isGrave : ByteArray := prog_5_method_24_code
abbrev yX3_isGrave : MethodName := ⟨"Marginnote$Paper", "isGrave", "(I)Z"⟩
abbrev cX3_isShownBreak : ByteArray := prog_5_method_25_code
abbrev yX3_isShownBreak : MethodName := ⟨"Marginnote$Paper", "isShownBreak", "(I)Z"⟩
abbrev cX3_bitsOf : ByteArray := prog_5_method_26_code
abbrev yX3_bitsOf : MethodName := ⟨"Marginnote$Paper", "bitsOf", "(I)I"⟩
abbrev cX3_hasBit : ByteArray := prog_5_method_27_code
abbrev yX3_hasBit : MethodName := ⟨"Marginnote$Paper", "hasBit", "(II)Z"⟩
abbrev cX3_inRow : ByteArray := prog_5_method_28_code
abbrev yX3_inRow : MethodName := ⟨"Marginnote$Paper", "inRow", "(I)I"⟩
abbrev cX3_placeOf : ByteArray := prog_5_method_29_code
abbrev yX3_placeOf : MethodName := ⟨"Marginnote$Paper", "placeOf", "(I)I"⟩
abbrev cX3_seenAt : ByteArray := prog_5_method_30_code
abbrev yX3_seenAt : MethodName := ⟨"Marginnote$Paper", "seenAt", "(I)I"⟩
abbrev cX3_seenThrough : ByteArray := prog_5_method_31_code
abbrev yX3_seenThrough : MethodName := ⟨"Marginnote$Paper", "seenThrough", "(I)I"⟩
abbrev cX3_pickSeen : ByteArray := prog_5_method_32_code
abbrev yX3_pickSeen : MethodName := ⟨"Marginnote$Paper", "pickSeen", "(II[I)I"⟩
abbrev cX3_pickDifferent : ByteArray := prog_5_method_33_code
abbrev yX3_pickDifferent : MethodName := ⟨"Marginnote$Paper", "pickDifferent", "(LMarginnote$Paper;[I)I"⟩
abbrev cX3_countSeen : ByteArray := prog_5_method_34_code
abbrev yX3_countSeen : MethodName := ⟨"Marginnote$Paper", "countSeen", "()I"⟩
abbrev cX3_countShown : ByteArray := prog_5_method_35_code
abbrev yX3_countShown : MethodName := ⟨"Marginnote$Paper", "countShown", "()I"⟩
abbrev cX3_countGraves : ByteArray := prog_5_method_36_code
abbrev yX3_countGraves : MethodName := ⟨"Marginnote$Paper", "countGraves", "()I"⟩
abbrev cX3_countSeenWith : ByteArray := prog_5_method_37_code
abbrev yX3_countSeenWith : MethodName := ⟨"Marginnote$Paper", "countSeenWith", "(I)I"⟩
abbrev cX3_isBlock : ByteArray := prog_5_method_38_code
abbrev yX3_isBlock : MethodName := ⟨"Marginnote$Paper", "isBlock", "(I)Z"⟩
abbrev cX3_blockOf : ByteArray := prog_5_method_39_code
abbrev yX3_blockOf : MethodName := ⟨"Marginnote$Paper", "blockOf", "(I)I"⟩
abbrev cX3_levelIn : ByteArray := prog_5_method_40_code
abbrev yX3_levelIn : MethodName := ⟨"Marginnote$Paper", "levelIn", "(II)I"⟩
abbrev cX3_countBlocks : ByteArray := prog_5_method_41_code
abbrev yX3_countBlocks : MethodName := ⟨"Marginnote$Paper", "countBlocks", "()I"⟩
abbrev cX3_shownBlock : ByteArray := prog_5_method_42_code
abbrev yX3_shownBlock : MethodName := ⟨"Marginnote$Paper", "shownBlock", "(I)I"⟩
abbrev cX3_kindOf : ByteArray := prog_5_method_43_code
abbrev yX3_kindOf : MethodName := ⟨"Marginnote$Paper", "kindOf", "(I)I"⟩
abbrev cX3_depthOf : ByteArray := prog_5_method_44_code
abbrev yX3_depthOf : MethodName := ⟨"Marginnote$Paper", "depthOf", "(I)I"⟩
abbrev cX4_init : ByteArray := prog_6_method_1_code
abbrev yX4_init : MethodName := ⟨"Marginnote$Site", "<init>", "(ILMarginnote$Book;)V"⟩
abbrev cX4_take : ByteArray := prog_6_method_2_code
abbrev yX4_take : MethodName := ⟨"Marginnote$Site", "take", "(II)V"⟩
abbrev cX4_loseLast : ByteArray := prog_6_method_3_code
abbrev yX4_loseLast : MethodName := ⟨"Marginnote$Site", "loseLast", "()V"⟩
abbrev cX4_learn : ByteArray := prog_6_method_4_code
abbrev yX4_learn : MethodName := ⟨"Marginnote$Site", "learn", "([I)V"⟩
abbrev cX4_knownOf : ByteArray := prog_6_method_5_code
abbrev yX4_knownOf : MethodName := ⟨"Marginnote$Site", "knownOf", "(I)I"⟩
abbrev cX4_unsafeCount : ByteArray := prog_6_method_6_code
abbrev yX4_unsafeCount : MethodName := ⟨"Marginnote$Site", "unsafeCount", "()I"⟩
abbrev cX4_makeAllSafe : ByteArray := prog_6_method_7_code
abbrev yX4_makeAllSafe : MethodName := ⟨"Marginnote$Site", "makeAllSafe", "()V"⟩
abbrev cX4_countFirst : ByteArray := prog_6_method_8_code
abbrev yX4_countFirst : MethodName := ⟨"Marginnote$Site", "countFirst", "(I[I)V"⟩
abbrev cX5_init : ByteArray := prog_1_method_1_code
abbrev yX5_init : MethodName := ⟨"Marginnote", "<init>", "()V"⟩
abbrev cX5_type : ByteArray := prog_1_method_2_code
abbrev yX5_type : MethodName := ⟨"Marginnote", "type", "(IC)I"⟩
abbrev cX5_split : ByteArray := prog_1_method_3_code
abbrev yX5_split : MethodName := ⟨"Marginnote", "split", "(I)I"⟩
abbrev cX5_erase : ByteArray := prog_1_method_4_code
abbrev yX5_erase : MethodName := ⟨"Marginnote", "erase", "(I)I"⟩
abbrev cX5_moveTo : ByteArray := prog_1_method_5_code
abbrev yX5_moveTo : MethodName := ⟨"Marginnote", "moveTo", "(II)I"⟩
abbrev cX5_extend : ByteArray := prog_1_method_6_code
abbrev yX5_extend : MethodName := ⟨"Marginnote", "extend", "(II)I"⟩
abbrev cX5_mark : ByteArray := prog_1_method_7_code
abbrev yX5_mark : MethodName := ⟨"Marginnote", "mark", "(IIZ)I"⟩
abbrev cX5_comment : ByteArray := prog_1_method_8_code
abbrev yX5_comment : MethodName := ⟨"Marginnote", "comment", "(I)I"⟩
abbrev cX5_setKind : ByteArray := prog_1_method_9_code
abbrev yX5_setKind : MethodName := ⟨"Marginnote", "setKind", "(III)I"⟩
abbrev cX5_nest : ByteArray := prog_1_method_10_code
abbrev yX5_nest : MethodName := ⟨"Marginnote", "nest", "(III)I"⟩
abbrev cX5_propose : ByteArray := prog_1_method_11_code
abbrev yX5_propose : MethodName := ⟨"Marginnote", "propose", "(IZ)Z"⟩
abbrev cX5_decide : ByteArray := prog_1_method_12_code
abbrev yX5_decide : MethodName := ⟨"Marginnote", "decide", "(IIZ)I"⟩
abbrev cX5_allow : ByteArray := prog_1_method_13_code
abbrev yX5_allow : MethodName := ⟨"Marginnote", "allow", "(III)I"⟩
abbrev cX5_undo : ByteArray := prog_1_method_14_code
abbrev yX5_undo : MethodName := ⟨"Marginnote", "undo", "(I)I"⟩
abbrev cX5_redo : ByteArray := prog_1_method_15_code
abbrev yX5_redo : MethodName := ⟨"Marginnote", "redo", "(I)I"⟩
abbrev cX5_send : ByteArray := prog_1_method_16_code
abbrev yX5_send : MethodName := ⟨"Marginnote", "send", "(II)I"⟩
abbrev cX5_deliver : ByteArray := prog_1_method_17_code
abbrev yX5_deliver : MethodName := ⟨"Marginnote", "deliver", "(I)I"⟩
abbrev cX5_save : ByteArray := prog_1_method_18_code
abbrev yX5_save : MethodName := ⟨"Marginnote", "save", "(I)I"⟩
abbrev cX5_crash : ByteArray := prog_1_method_19_code
abbrev yX5_crash : MethodName := ⟨"Marginnote", "crash", "(II)I"⟩
abbrev cX5_name : ByteArray := prog_1_method_20_code
abbrev yX5_name : MethodName := ⟨"Marginnote", "name", "(I)I"⟩
abbrev cX5_bringBack : ByteArray := prog_1_method_21_code
abbrev yX5_bringBack : MethodName := ⟨"Marginnote", "bringBack", "(II)I"⟩
abbrev cX5_differ : ByteArray := prog_1_method_22_code
abbrev yX5_differ : MethodName := ⟨"Marginnote", "differ", "(II)I"⟩
abbrev cX5_length : ByteArray := prog_1_method_23_code
abbrev yX5_length : MethodName := ⟨"Marginnote", "length", "(I)I"⟩
abbrev cX5_shown : ByteArray := prog_1_method_24_code
abbrev yX5_shown : MethodName := ⟨"Marginnote", "shown", "(I)I"⟩
abbrev cX5_element : ByteArray := prog_1_method_25_code
abbrev yX5_element : MethodName := ⟨"Marginnote", "element", "(II)I"⟩
abbrev cX5_elementAnew : ByteArray := prog_1_method_26_code
abbrev yX5_elementAnew : MethodName := ⟨"Marginnote", "elementAnew", "(II)I"⟩
abbrev cX5_letter : ByteArray := prog_1_method_27_code
abbrev yX5_letter : MethodName := ⟨"Marginnote", "letter", "(II)C"⟩
abbrev cX5_proposed : ByteArray := prog_1_method_28_code
abbrev yX5_proposed : MethodName := ⟨"Marginnote", "proposed", "(II)I"⟩
abbrev cX5_open : ByteArray := prog_1_method_29_code
abbrev yX5_open : MethodName := ⟨"Marginnote", "open", "(I)I"⟩
abbrev cX5_isMarked : ByteArray := prog_1_method_30_code
abbrev yX5_isMarked : MethodName := ⟨"Marginnote", "isMarked", "(III)Z"⟩
abbrev cX5_covered : ByteArray := prog_1_method_31_code
abbrev yX5_covered : MethodName := ⟨"Marginnote", "covered", "(II)I"⟩
abbrev cX5_blocks : ByteArray := prog_1_method_32_code
abbrev yX5_blocks : MethodName := ⟨"Marginnote", "blocks", "(I)I"⟩
abbrev cX5_kind : ByteArray := prog_1_method_33_code
abbrev yX5_kind : MethodName := ⟨"Marginnote", "kind", "(II)I"⟩
abbrev cX5_depth : ByteArray := prog_1_method_34_code
abbrev yX5_depth : MethodName := ⟨"Marginnote", "depth", "(II)I"⟩
abbrev cX5_level : ByteArray := prog_1_method_35_code
abbrev yX5_level : MethodName := ⟨"Marginnote", "level", "(II)I"⟩
abbrev cX5_cursor : ByteArray := prog_1_method_36_code
abbrev yX5_cursor : MethodName := ⟨"Marginnote", "cursor", "(I)I"⟩
abbrev cX5_tail : ByteArray := prog_1_method_37_code
abbrev yX5_tail : MethodName := ⟨"Marginnote", "tail", "(I)I"⟩
abbrev cX5_graves : ByteArray := prog_1_method_38_code
abbrev yX5_graves : MethodName := ⟨"Marginnote", "graves", "(I)I"⟩
abbrev cX5_buried : ByteArray := prog_1_method_39_code
abbrev yX5_buried : MethodName := ⟨"Marginnote", "buried", "(I)I"⟩
abbrev cX5_acts : ByteArray := prog_1_method_40_code
abbrev yX5_acts : MethodName := ⟨"Marginnote", "acts", "()I"⟩
abbrev cX5_has : ByteArray := prog_1_method_41_code
abbrev yX5_has : MethodName := ⟨"Marginnote", "has", "(I)I"⟩
abbrev cX5_actAt : ByteArray := prog_1_method_42_code
abbrev yX5_actAt : MethodName := ⟨"Marginnote", "actAt", "(II)I"⟩
abbrev cX5_act : ByteArray := prog_1_method_43_code
abbrev yX5_act : MethodName := ⟨"Marginnote", "act", "(I)I"⟩
abbrev cX5_isUndone : ByteArray := prog_1_method_44_code
abbrev yX5_isUndone : MethodName := ⟨"Marginnote", "isUndone", "(II)Z"⟩
abbrev cX5_siteAt : ByteArray := prog_1_method_45_code
abbrev yX5_siteAt : MethodName := ⟨"Marginnote", "siteAt", "(I)LMarginnote$Site;"⟩
abbrev cX5_messageAt : ByteArray := prog_1_method_46_code
abbrev yX5_messageAt : MethodName := ⟨"Marginnote", "messageAt", "(I)LMarginnote$Message;"⟩
abbrev cX5_versionAt : ByteArray := prog_1_method_47_code
abbrev yX5_versionAt : MethodName := ⟨"Marginnote", "versionAt", "(I)LMarginnote$ActSet;"⟩
abbrev cX5_elementAt : ByteArray := prog_1_method_48_code
abbrev yX5_elementAt : MethodName := ⟨"Marginnote", "elementAt", "(LMarginnote$Paper;I)I"⟩
abbrev cX5_standAt : ByteArray := prog_1_method_49_code
abbrev yX5_standAt : MethodName := ⟨"Marginnote", "standAt", "(LMarginnote$Paper;I)I"⟩
abbrev cX5_blockAt : ByteArray := prog_1_method_50_code
abbrev yX5_blockAt : MethodName := ⟨"Marginnote", "blockAt", "(LMarginnote$Paper;I)I"⟩
abbrev cX5_checkHeld : ByteArray := prog_1_method_51_code
abbrev yX5_checkHeld : MethodName := ⟨"Marginnote", "checkHeld", "(LMarginnote$Site;I)V"⟩
abbrev cX5_checkMark : ByteArray := prog_1_method_52_code
abbrev yX5_checkMark : MethodName := ⟨"Marginnote", "checkMark", "(I)V"⟩
abbrev cX5_checkRoomFor : ByteArray := prog_1_method_53_code
abbrev yX5_checkRoomFor : MethodName := ⟨"Marginnote", "checkRoomFor", "(I)V"⟩
abbrev cX5_checkMayWriteIn : ByteArray := prog_1_method_54_code
abbrev yX5_checkMayWriteIn : MethodName := ⟨"Marginnote", "checkMayWriteIn", "(LMarginnote$Paper;LMarginnote$Site;I)V"⟩
abbrev cX5_commentBit : ByteArray := prog_1_method_55_code
abbrev yX5_commentBit : MethodName := ⟨"Marginnote", "commentBit", "(I)I"⟩
abbrev cX5_paperOf : ByteArray := prog_1_method_56_code
abbrev yX5_paperOf : MethodName := ⟨"Marginnote", "paperOf", "(LMarginnote$Site;)LMarginnote$Paper;"⟩
abbrev cX5_writeBehindCursor : ByteArray := prog_1_method_57_code
abbrev yX5_writeBehindCursor : MethodName := ⟨"Marginnote", "writeBehindCursor", "(LMarginnote$Site;LMarginnote$Paper;IC)I"⟩
abbrev cX5_writeOnSelection : ByteArray := prog_1_method_58_code
abbrev yX5_writeOnSelection : MethodName := ⟨"Marginnote", "writeOnSelection", "(LMarginnote$Site;LMarginnote$Paper;IIZ)I"⟩
abbrev cX5_make : ByteArray := prog_1_method_59_code
abbrev yX5_make : MethodName := ⟨"Marginnote", "make", "(LMarginnote$Site;IIIIZ)I"⟩
abbrev cX5_lastNotUndone : ByteArray := prog_1_method_60_code
abbrev yX5_lastNotUndone : MethodName := ⟨"Marginnote", "lastNotUndone", "(LMarginnote$Site;LMarginnote$Paper;)I"⟩
abbrev cX5_lastToRedo : ByteArray := prog_1_method_61_code
abbrev yX5_lastToRedo : MethodName := ⟨"Marginnote", "lastToRedo", "(LMarginnote$Site;LMarginnote$Paper;)I"⟩
abbrev cX5_madeAndHas : ByteArray := prog_1_method_62_code
abbrev yX5_madeAndHas : MethodName := ⟨"Marginnote", "madeAndHas", "(LMarginnote$Site;I)Z"⟩
abbrev cX5_collectHadByAll : ByteArray := prog_1_method_63_code
abbrev yX5_collectHadByAll : MethodName := ⟨"Marginnote", "collectHadByAll", "(LMarginnote$Site;)V"⟩
abbrev cX6_init : ByteArray := prog_8_method_1_code
abbrev yX6_init : MethodName := ⟨"MarginnoteModel", "<init>", "()V"⟩
abbrev cX6_thrown : ByteArray := prog_8_method_2_code
abbrev yX6_thrown : MethodName := ⟨"MarginnoteModel", "thrown", "()I"⟩
abbrev cX6_fails : ByteArray := prog_8_method_3_code
abbrev yX6_fails : MethodName := ⟨"MarginnoteModel", "fails", "(I)I"⟩
abbrev cX6_isIn : ByteArray := prog_8_method_4_code
abbrev yX6_isIn : MethodName := ⟨"MarginnoteModel", "isIn", "(III)Z"⟩
abbrev cX6_isSite : ByteArray := prog_8_method_5_code
abbrev yX6_isSite : MethodName := ⟨"MarginnoteModel", "isSite", "(I)Z"⟩
abbrev cX6_hasAct : ByteArray := prog_8_method_6_code
abbrev yX6_hasAct : MethodName := ⟨"MarginnoteModel", "hasAct", "(II)Z"⟩
abbrev cX6_orders : ByteArray := prog_8_method_7_code
abbrev yX6_orders : MethodName := ⟨"MarginnoteModel", "orders", "([ZI)V"⟩
abbrev cX6_isBehind : ByteArray := prog_8_method_8_code
abbrev yX6_isBehind : MethodName := ⟨"MarginnoteModel", "isBehind", "(II)Z"⟩
abbrev cX6_spot : ByteArray := prog_8_method_9_code
abbrev yX6_spot : MethodName := ⟨"MarginnoteModel", "spot", "(I)I"⟩
abbrev cX6_isSeen : ByteArray := prog_8_method_10_code
abbrev yX6_isSeen : MethodName := ⟨"MarginnoteModel", "isSeen", "(I)Z"⟩
abbrev cX6_isShown : ByteArray := prog_8_method_11_code
abbrev yX6_isShown : MethodName := ⟨"MarginnoteModel", "isShown", "(I)Z"⟩
abbrev cX6_blockAt : ByteArray := prog_8_method_12_code
abbrev yX6_blockAt : MethodName := ⟨"MarginnoteModel", "blockAt", "(I)I"⟩
abbrev cX6_blockOf : ByteArray := prog_8_method_13_code
abbrev yX6_blockOf : MethodName := ⟨"MarginnoteModel", "blockOf", "(I)I"⟩
abbrev cX6_levelIn : ByteArray := prog_8_method_14_code
abbrev yX6_levelIn : MethodName := ⟨"MarginnoteModel", "levelIn", "(II)I"⟩
abbrev cX6_finds : ByteArray := prog_8_method_15_code
abbrev yX6_finds : MethodName := ⟨"MarginnoteModel", "finds", "([ZI)V"⟩
abbrev cX6_does : ByteArray := prog_8_method_16_code
abbrev yX6_does : MethodName := ⟨"MarginnoteModel", "does", "(I)V"⟩
abbrev cX6_comesTo : ByteArray := prog_8_method_17_code
abbrev yX6_comesTo : MethodName := ⟨"MarginnoteModel", "comesTo", "(II)Z"⟩
abbrev cX6_puts : ByteArray := prog_8_method_18_code
abbrev yX6_puts : MethodName := ⟨"MarginnoteModel", "puts", "(I)V"⟩
abbrev cX6_removes : ByteArray := prog_8_method_19_code
abbrev yX6_removes : MethodName := ⟨"MarginnoteModel", "removes", "(I)V"⟩
abbrev cX6_spans : ByteArray := prog_8_method_20_code
abbrev yX6_spans : MethodName := ⟨"MarginnoteModel", "spans", "(I)V"⟩
abbrev cX6_elementOf : ByteArray := prog_8_method_21_code
abbrev yX6_elementOf : MethodName := ⟨"MarginnoteModel", "elementOf", "(I)I"⟩
abbrev cX6_isOpen : ByteArray := prog_8_method_22_code
abbrev yX6_isOpen : MethodName := ⟨"MarginnoteModel", "isOpen", "(I)Z"⟩
abbrev cX6_decides : ByteArray := prog_8_method_23_code
abbrev yX6_decides : MethodName := ⟨"MarginnoteModel", "decides", "(IIZ)V"⟩
abbrev cX6_isDone : ByteArray := prog_8_method_24_code
abbrev yX6_isDone : MethodName := ⟨"MarginnoteModel", "isDone", "(I)Z"⟩
abbrev cX6_findsSite : ByteArray := prog_8_method_25_code
abbrev yX6_findsSite : MethodName := ⟨"MarginnoteModel", "findsSite", "(I)V"⟩
abbrev cX6_seen : ByteArray := prog_8_method_26_code
abbrev yX6_seen : MethodName := ⟨"MarginnoteModel", "seen", "()I"⟩
abbrev cX6_seenAt : ByteArray := prog_8_method_27_code
abbrev yX6_seenAt : MethodName := ⟨"MarginnoteModel", "seenAt", "(I)I"⟩
abbrev cX6_placeOf : ByteArray := prog_8_method_28_code
abbrev yX6_placeOf : MethodName := ⟨"MarginnoteModel", "placeOf", "(I)I"⟩
abbrev cX6_makes : ByteArray := prog_8_method_29_code
abbrev yX6_makes : MethodName := ⟨"MarginnoteModel", "makes", "(IIIIIIZ)I"⟩
abbrev cX6_gets : ByteArray := prog_8_method_30_code
abbrev yX6_gets : MethodName := ⟨"MarginnoteModel", "gets", "(II)V"⟩
abbrev cX6_writes : ByteArray := prog_8_method_31_code
abbrev yX6_writes : MethodName := ⟨"MarginnoteModel", "writes", "(III)I"⟩
abbrev cX6_type : ByteArray := prog_8_method_32_code
abbrev yX6_type : MethodName := ⟨"MarginnoteModel", "type", "(IC)I"⟩
abbrev cX6_split : ByteArray := prog_8_method_33_code
abbrev yX6_split : MethodName := ⟨"MarginnoteModel", "split", "(I)I"⟩
abbrev cX6_lower : ByteArray := prog_8_method_34_code
abbrev yX6_lower : MethodName := ⟨"MarginnoteModel", "lower", "(I)I"⟩
abbrev cX6_selected : ByteArray := prog_8_method_35_code
abbrev yX6_selected : MethodName := ⟨"MarginnoteModel", "selected", "(I)I"⟩
abbrev cX6_erase : ByteArray := prog_8_method_36_code
abbrev yX6_erase : MethodName := ⟨"MarginnoteModel", "erase", "(I)I"⟩
abbrev cX6_moveTo : ByteArray := prog_8_method_37_code
abbrev yX6_moveTo : MethodName := ⟨"MarginnoteModel", "moveTo", "(II)I"⟩
abbrev cX6_extend : ByteArray := prog_8_method_38_code
abbrev yX6_extend : MethodName := ⟨"MarginnoteModel", "extend", "(II)I"⟩
abbrev cX6_mark : ByteArray := prog_8_method_39_code
abbrev yX6_mark : MethodName := ⟨"MarginnoteModel", "mark", "(IIZ)I"⟩
abbrev cX6_comment : ByteArray := prog_8_method_40_code
abbrev yX6_comment : MethodName := ⟨"MarginnoteModel", "comment", "(I)I"⟩
abbrev cX6_shownBlocks : ByteArray := prog_8_method_41_code
abbrev yX6_shownBlocks : MethodName := ⟨"MarginnoteModel", "shownBlocks", "()I"⟩
abbrev cX6_blockNumber : ByteArray := prog_8_method_42_code
abbrev yX6_blockNumber : MethodName := ⟨"MarginnoteModel", "blockNumber", "(I)I"⟩
abbrev cX6_isBlock : ByteArray := prog_8_method_43_code
abbrev yX6_isBlock : MethodName := ⟨"MarginnoteModel", "isBlock", "(II)Z"⟩
abbrev cX6_setKind : ByteArray := prog_8_method_44_code
abbrev yX6_setKind : MethodName := ⟨"MarginnoteModel", "setKind", "(III)I"⟩
abbrev cX6_nest : ByteArray := prog_8_method_45_code
abbrev yX6_nest : MethodName := ⟨"MarginnoteModel", "nest", "(III)I"⟩
abbrev cX6_propose : ByteArray := prog_8_method_46_code
abbrev yX6_propose : MethodName := ⟨"MarginnoteModel", "propose", "(IZ)Z"⟩
abbrev cX6_decide : ByteArray := prog_8_method_47_code
abbrev yX6_decide : MethodName := ⟨"MarginnoteModel", "decide", "(IIZ)I"⟩
abbrev cX6_allow : ByteArray := prog_8_method_48_code
abbrev yX6_allow : MethodName := ⟨"MarginnoteModel", "allow", "(III)I"⟩
abbrev cX6_undo : ByteArray := prog_8_method_49_code
abbrev yX6_undo : MethodName := ⟨"MarginnoteModel", "undo", "(I)I"⟩
abbrev cX6_redo : ByteArray := prog_8_method_50_code
abbrev yX6_redo : MethodName := ⟨"MarginnoteModel", "redo", "(I)I"⟩
abbrev cX6_isSafe : ByteArray := prog_8_method_51_code
abbrev yX6_isSafe : MethodName := ⟨"MarginnoteModel", "isSafe", "(II)Z"⟩
abbrev cX6_knowsOf : ByteArray := prog_8_method_52_code
abbrev yX6_knowsOf : MethodName := ⟨"MarginnoteModel", "knowsOf", "(III)Z"⟩
abbrev cX6_send : ByteArray := prog_8_method_53_code
abbrev yX6_send : MethodName := ⟨"MarginnoteModel", "send", "(II)I"⟩
abbrev cX6_deliver : ByteArray := prog_8_method_54_code
abbrev yX6_deliver : MethodName := ⟨"MarginnoteModel", "deliver", "(I)I"⟩
abbrev cX6_save : ByteArray := prog_8_method_55_code
abbrev yX6_save : MethodName := ⟨"MarginnoteModel", "save", "(I)I"⟩
abbrev cX6_crash : ByteArray := prog_8_method_56_code
abbrev yX6_crash : MethodName := ⟨"MarginnoteModel", "crash", "(II)I"⟩
abbrev cX6_name : ByteArray := prog_8_method_57_code
abbrev yX6_name : MethodName := ⟨"MarginnoteModel", "name", "(I)I"⟩
abbrev cX6_isVersion : ByteArray := prog_8_method_58_code
abbrev yX6_isVersion : MethodName := ⟨"MarginnoteModel", "isVersion", "(I)Z"⟩
abbrev cX6_keeps : ByteArray := prog_8_method_59_code
abbrev yX6_keeps : MethodName := ⟨"MarginnoteModel", "keeps", "(I)V"⟩
abbrev cX6_bringBack : ByteArray := prog_8_method_60_code
abbrev yX6_bringBack : MethodName := ⟨"MarginnoteModel", "bringBack", "(II)I"⟩
abbrev cX6_differ : ByteArray := prog_8_method_61_code
abbrev yX6_differ : MethodName := ⟨"MarginnoteModel", "differ", "(II)I"⟩
abbrev cX6_length : ByteArray := prog_8_method_62_code
abbrev yX6_length : MethodName := ⟨"MarginnoteModel", "length", "(I)I"⟩
abbrev cX6_shown : ByteArray := prog_8_method_63_code
abbrev yX6_shown : MethodName := ⟨"MarginnoteModel", "shown", "(I)I"⟩
abbrev cX6_isPlace : ByteArray := prog_8_method_64_code
abbrev yX6_isPlace : MethodName := ⟨"MarginnoteModel", "isPlace", "(II)Z"⟩
abbrev cX6_element : ByteArray := prog_8_method_65_code
abbrev yX6_element : MethodName := ⟨"MarginnoteModel", "element", "(II)I"⟩
abbrev cX6_elementAnew : ByteArray := prog_8_method_66_code
abbrev yX6_elementAnew : MethodName := ⟨"MarginnoteModel", "elementAnew", "(II)I"⟩
abbrev cX6_letter : ByteArray := prog_8_method_67_code
abbrev yX6_letter : MethodName := ⟨"MarginnoteModel", "letter", "(II)C"⟩
abbrev cX6_proposed : ByteArray := prog_8_method_68_code
abbrev yX6_proposed : MethodName := ⟨"MarginnoteModel", "proposed", "(II)I"⟩
abbrev cX6_open : ByteArray := prog_8_method_69_code
abbrev yX6_open : MethodName := ⟨"MarginnoteModel", "open", "(I)I"⟩
abbrev cX6_isMarked : ByteArray := prog_8_method_70_code
abbrev yX6_isMarked : MethodName := ⟨"MarginnoteModel", "isMarked", "(III)Z"⟩
abbrev cX6_covered : ByteArray := prog_8_method_71_code
abbrev yX6_covered : MethodName := ⟨"MarginnoteModel", "covered", "(II)I"⟩
abbrev cX6_blocks : ByteArray := prog_8_method_72_code
abbrev yX6_blocks : MethodName := ⟨"MarginnoteModel", "blocks", "(I)I"⟩
abbrev cX6_kind : ByteArray := prog_8_method_73_code
abbrev yX6_kind : MethodName := ⟨"MarginnoteModel", "kind", "(II)I"⟩
abbrev cX6_depth : ByteArray := prog_8_method_74_code
abbrev yX6_depth : MethodName := ⟨"MarginnoteModel", "depth", "(II)I"⟩
abbrev cX6_level : ByteArray := prog_8_method_75_code
abbrev yX6_level : MethodName := ⟨"MarginnoteModel", "level", "(II)I"⟩
abbrev cX6_cursor : ByteArray := prog_8_method_76_code
abbrev yX6_cursor : MethodName := ⟨"MarginnoteModel", "cursor", "(I)I"⟩
abbrev cX6_tail : ByteArray := prog_8_method_77_code
abbrev yX6_tail : MethodName := ⟨"MarginnoteModel", "tail", "(I)I"⟩
abbrev cX6_graves : ByteArray := prog_8_method_78_code
abbrev yX6_graves : MethodName := ⟨"MarginnoteModel", "graves", "(I)I"⟩
abbrev cX6_buried : ByteArray := prog_8_method_79_code
abbrev yX6_buried : MethodName := ⟨"MarginnoteModel", "buried", "(I)I"⟩
abbrev cX6_acts : ByteArray := prog_8_method_80_code
abbrev yX6_acts : MethodName := ⟨"MarginnoteModel", "acts", "()I"⟩
abbrev cX6_has : ByteArray := prog_8_method_81_code
abbrev yX6_has : MethodName := ⟨"MarginnoteModel", "has", "(I)I"⟩
abbrev cX6_actAt : ByteArray := prog_8_method_82_code
abbrev yX6_actAt : MethodName := ⟨"MarginnoteModel", "actAt", "(II)I"⟩
abbrev cX6_act : ByteArray := prog_8_method_83_code
abbrev yX6_act : MethodName := ⟨"MarginnoteModel", "act", "(I)I"⟩
abbrev cX6_isUndone : ByteArray := prog_8_method_84_code
abbrev yX6_isUndone : MethodName := ⟨"MarginnoteModel", "isUndone", "(II)Z"⟩
abbrev cL_type : ByteArray := method_3_code
abbrev yL_type : MethodName := ⟨"MarginnoteLaw", "type", "(LMarginnote;IC[J)I"⟩
abbrev cL_split : ByteArray := method_4_code
abbrev yL_split : MethodName := ⟨"MarginnoteLaw", "split", "(LMarginnote;I[J)I"⟩
abbrev cL_erase : ByteArray := method_5_code
abbrev yL_erase : MethodName := ⟨"MarginnoteLaw", "erase", "(LMarginnote;I[J)I"⟩
abbrev cL_moveTo : ByteArray := method_6_code
abbrev yL_moveTo : MethodName := ⟨"MarginnoteLaw", "moveTo", "(LMarginnote;II[J)I"⟩
abbrev cL_extend : ByteArray := method_7_code
abbrev yL_extend : MethodName := ⟨"MarginnoteLaw", "extend", "(LMarginnote;II[J)I"⟩
abbrev cL_mark : ByteArray := method_8_code
abbrev yL_mark : MethodName := ⟨"MarginnoteLaw", "mark", "(LMarginnote;IIZ[J)I"⟩
abbrev cL_comment : ByteArray := method_9_code
abbrev yL_comment : MethodName := ⟨"MarginnoteLaw", "comment", "(LMarginnote;I[J)I"⟩
abbrev cL_setKind : ByteArray := method_10_code
abbrev yL_setKind : MethodName := ⟨"MarginnoteLaw", "setKind", "(LMarginnote;III[J)I"⟩
abbrev cL_nest : ByteArray := method_11_code
abbrev yL_nest : MethodName := ⟨"MarginnoteLaw", "nest", "(LMarginnote;III[J)I"⟩
abbrev cL_propose : ByteArray := method_12_code
abbrev yL_propose : MethodName := ⟨"MarginnoteLaw", "propose", "(LMarginnote;IZ[J)I"⟩
abbrev cL_decide : ByteArray := method_13_code
abbrev yL_decide : MethodName := ⟨"MarginnoteLaw", "decide", "(LMarginnote;IIZ[J)I"⟩
abbrev cL_allow : ByteArray := method_14_code
abbrev yL_allow : MethodName := ⟨"MarginnoteLaw", "allow", "(LMarginnote;III[J)I"⟩
abbrev cL_undo : ByteArray := method_15_code
abbrev yL_undo : MethodName := ⟨"MarginnoteLaw", "undo", "(LMarginnote;I[J)I"⟩
abbrev cL_redo : ByteArray := method_16_code
abbrev yL_redo : MethodName := ⟨"MarginnoteLaw", "redo", "(LMarginnote;I[J)I"⟩
abbrev cL_send : ByteArray := method_17_code
abbrev yL_send : MethodName := ⟨"MarginnoteLaw", "send", "(LMarginnote;II[J)I"⟩
abbrev cL_deliver : ByteArray := method_18_code
abbrev yL_deliver : MethodName := ⟨"MarginnoteLaw", "deliver", "(LMarginnote;I[J)I"⟩
abbrev cL_save : ByteArray := method_19_code
abbrev yL_save : MethodName := ⟨"MarginnoteLaw", "save", "(LMarginnote;I[J)I"⟩
abbrev cL_crash : ByteArray := method_20_code
abbrev yL_crash : MethodName := ⟨"MarginnoteLaw", "crash", "(LMarginnote;II[J)I"⟩
abbrev cL_name : ByteArray := method_21_code
abbrev yL_name : MethodName := ⟨"MarginnoteLaw", "name", "(LMarginnote;I[J)I"⟩
abbrev cL_bringBack : ByteArray := method_22_code
abbrev yL_bringBack : MethodName := ⟨"MarginnoteLaw", "bringBack", "(LMarginnote;II[J)I"⟩
abbrev cL_differ : ByteArray := method_23_code
abbrev yL_differ : MethodName := ⟨"MarginnoteLaw", "differ", "(LMarginnote;II[J)I"⟩
abbrev cL_length : ByteArray := method_24_code
abbrev yL_length : MethodName := ⟨"MarginnoteLaw", "length", "(LMarginnote;I[J)I"⟩
abbrev cL_shown : ByteArray := method_25_code
abbrev yL_shown : MethodName := ⟨"MarginnoteLaw", "shown", "(LMarginnote;I[J)I"⟩
abbrev cL_element : ByteArray := method_26_code
abbrev yL_element : MethodName := ⟨"MarginnoteLaw", "element", "(LMarginnote;II[J)I"⟩
abbrev cL_elementAnew : ByteArray := method_27_code
abbrev yL_elementAnew : MethodName := ⟨"MarginnoteLaw", "elementAnew", "(LMarginnote;II[J)I"⟩
abbrev cL_letter : ByteArray := method_28_code
abbrev yL_letter : MethodName := ⟨"MarginnoteLaw", "letter", "(LMarginnote;II[J)I"⟩
abbrev cL_proposed : ByteArray := method_29_code
abbrev yL_proposed : MethodName := ⟨"MarginnoteLaw", "proposed", "(LMarginnote;II[J)I"⟩
abbrev cL_open : ByteArray := method_30_code
abbrev yL_open : MethodName := ⟨"MarginnoteLaw", "open", "(LMarginnote;I[J)I"⟩
abbrev cL_isMarked : ByteArray := method_31_code
abbrev yL_isMarked : MethodName := ⟨"MarginnoteLaw", "isMarked", "(LMarginnote;III[J)I"⟩
abbrev cL_covered : ByteArray := method_32_code
abbrev yL_covered : MethodName := ⟨"MarginnoteLaw", "covered", "(LMarginnote;II[J)I"⟩
abbrev cL_blocks : ByteArray := method_33_code
abbrev yL_blocks : MethodName := ⟨"MarginnoteLaw", "blocks", "(LMarginnote;I[J)I"⟩
abbrev cL_kind : ByteArray := method_34_code
abbrev yL_kind : MethodName := ⟨"MarginnoteLaw", "kind", "(LMarginnote;II[J)I"⟩
abbrev cL_depth : ByteArray := method_35_code
abbrev yL_depth : MethodName := ⟨"MarginnoteLaw", "depth", "(LMarginnote;II[J)I"⟩
abbrev cL_level : ByteArray := method_36_code
abbrev yL_level : MethodName := ⟨"MarginnoteLaw", "level", "(LMarginnote;II[J)I"⟩
abbrev cL_cursor : ByteArray := method_37_code
abbrev yL_cursor : MethodName := ⟨"MarginnoteLaw", "cursor", "(LMarginnote;I[J)I"⟩
abbrev cL_tail : ByteArray := method_38_code
abbrev yL_tail : MethodName := ⟨"MarginnoteLaw", "tail", "(LMarginnote;I[J)I"⟩
abbrev cL_graves : ByteArray := method_39_code
abbrev yL_graves : MethodName := ⟨"MarginnoteLaw", "graves", "(LMarginnote;I[J)I"⟩
abbrev cL_buried : ByteArray := method_40_code
abbrev yL_buried : MethodName := ⟨"MarginnoteLaw", "buried", "(LMarginnote;I[J)I"⟩
abbrev cL_has : ByteArray := method_41_code
abbrev yL_has : MethodName := ⟨"MarginnoteLaw", "has", "(LMarginnote;I[J)I"⟩
abbrev cL_actAt : ByteArray := method_42_code
abbrev yL_actAt : MethodName := ⟨"MarginnoteLaw", "actAt", "(LMarginnote;II[J)I"⟩
abbrev cL_act : ByteArray := method_43_code
abbrev yL_act : MethodName := ⟨"MarginnoteLaw", "act", "(LMarginnote;I[J)I"⟩
abbrev cL_isUndone : ByteArray := method_44_code
abbrev yL_isUndone : MethodName := ⟨"MarginnoteLaw", "isUndone", "(LMarginnote;II[J)I"⟩
abbrev cL_law : ByteArray := code
abbrev yL_law : MethodName := ⟨"MarginnoteLaw", "law", "([I)Z"⟩
abbrev vwCl : List vw_C := [(RX0, TX0, 2), (RX1, TX1, 10), (RX2, TX2, 3), (RX3, TX3, 12), (RX4, TX4, 10), (RX5, TX5, 11), (RX6, TX6, 45)]
/-- all words of the tables that hold at every call -/
def GW : List Cond := lw_tbl.filter goodWord
theorem GW_p {w : Cond} (h : w ∈ k2_sels lw_privs) (g : goodWord w = true) : w ∈ GW := List.mem_filter.mpr ⟨List.mem_append_left _ h, g⟩
theorem GW_s {q : MethodName × Nat} (h : q ∈ lw_privs) (g : goodWord (Cond.selects q.1.cls q.1 q.1) = true) : Cond.selects q.1.cls q.1 q.1 ∈ GW := GW_p (List.mem_map.mpr ⟨q, h, rfl⟩) g
theorem GW_1 {w : Cond} (i : Nat) (h : w ∈ tables_1_1) (g : goodWord w = true) : w ∈ GW := List.mem_filter.mpr ⟨List.mem_append_right _ (show w ∈ tables_1 from (List.mem_append_left _ h)), g⟩
theorem GW_2 {w : Cond} (i : Nat) (h : w ∈ tables_1_2) (g : goodWord w = true) : w ∈ GW := List.mem_filter.mpr ⟨List.mem_append_right _ (show w ∈ tables_1 from (List.mem_append_right _ (List.mem_append_left _ h))), g⟩
theorem GW_3 {w : Cond} (i : Nat) (h : w ∈ tables_1_3) (g : goodWord w = true) : w ∈ GW := List.mem_filter.mpr ⟨List.mem_append_right _ (show w ∈ tables_1 from (List.mem_append_right _ (List.mem_append_right _ (List.mem_append_left _ h)))), g⟩
theorem GW_4 {w : Cond} (i : Nat) (h : w ∈ tables_1_4) (g : goodWord w = true) : w ∈ GW := List.mem_filter.mpr ⟨List.mem_append_right _ (show w ∈ tables_1 from (List.mem_append_right _ (List.mem_append_right _ (List.mem_append_right _ (List.mem_append_left _ h))))), g⟩
theorem GW_5 {w : Cond} (i : Nat) (h : w ∈ tables_1_5) (g : goodWord w = true) : w ∈ GW := List.mem_filter.mpr ⟨List.mem_append_right _ (show w ∈ tables_1 from (List.mem_append_right _ (List.mem_append_right _ (List.mem_append_right _ (List.mem_append_right _ (List.mem_append_left _ h)))))), g⟩
theorem GW_6 {w : Cond} (i : Nat) (h : w ∈ tables_1_6) (g : goodWord w = true) : w ∈ GW := List.mem_filter.mpr ⟨List.mem_append_right _ (show w ∈ tables_1 from (List.mem_append_right _ (List.mem_append_right _ (List.mem_append_right _ (List.mem_append_right _ (List.mem_append_right _ (List.mem_append_left _ h))))))), g⟩
theorem GW_7 {w : Cond} (i : Nat) (h : w ∈ tables_1_7) (g : goodWord w = true) : w ∈ GW := List.mem_filter.mpr ⟨List.mem_append_right _ (show w ∈ tables_1 from (List.mem_append_right _ (List.mem_append_right _ (List.mem_append_right _ (List.mem_append_right _ (List.mem_append_right _ (List.mem_append_right _ h))))))), g⟩
theorem mw0 : (Jvm.Cond.initialized "MarginnoteLaw") ∈ GW := GW_1 0 (List.mem_of_getElem? (i := 0) rfl) rfl
theorem mw1 : (Jvm.Cond.initialized "Marginnote") ∈ GW := GW_1 0 (List.mem_of_getElem? (i := 1) rfl) rfl
theorem mw2 : (Jvm.Cond.initialized "Marginnote$Book") ∈ GW := GW_1 0 (List.mem_of_getElem? (i := 2) rfl) rfl
theorem mw3 : (Jvm.Cond.initialized "Marginnote$Site") ∈ GW := GW_1 0 (List.mem_of_getElem? (i := 3) rfl) rfl
theorem mw4 : (Jvm.Cond.initialized "Marginnote$ActSet") ∈ GW := GW_1 0 (List.mem_of_getElem? (i := 4) rfl) rfl
theorem mw5 : (Jvm.Cond.initialized "Marginnote$Paper") ∈ GW := GW_1 0 (List.mem_of_getElem? (i := 5) rfl) rfl
theorem mw6 : (Jvm.Cond.initialized "MarginnoteModel") ∈ GW := GW_1 0 (List.mem_of_getElem? (i := 6) rfl) rfl
theorem mw7 : (Jvm.Cond.initialized "java/lang/Throwable") ∈ GW := GW_1 0 (List.mem_of_getElem? (i := 7) rfl) rfl
theorem mw8 : (Jvm.Cond.initialized "java/lang/Exception") ∈ GW := GW_1 0 (List.mem_of_getElem? (i := 8) rfl) rfl
theorem mw9 : (Jvm.Cond.initialized "java/lang/RuntimeException") ∈ GW := GW_1 0 (List.mem_of_getElem? (i := 9) rfl) rfl
theorem mw10 : (Jvm.Cond.initialized "java/lang/IndexOutOfBoundsException") ∈ GW := GW_1 0 (List.mem_of_getElem? (i := 10) rfl) rfl
theorem mw11 : (Jvm.Cond.initialized "java/lang/IllegalArgumentException") ∈ GW := GW_1 0 (List.mem_of_getElem? (i := 11) rfl) rfl
theorem mw12 : (Jvm.Cond.initialized "java/lang/System") ∈ GW := GW_1 0 (List.mem_of_getElem? (i := 12) rfl) rfl
theorem mw13 : (Jvm.Cond.initialized "java/lang/IllegalStateException") ∈ GW := GW_1 0 (List.mem_of_getElem? (i := 13) rfl) rfl
theorem mw14 : (Jvm.Cond.initialized "java/lang/Math") ∈ GW := GW_1 0 (List.mem_of_getElem? (i := 14) rfl) rfl
theorem mw15 : (Jvm.Cond.initialized "Marginnote$Message") ∈ GW := GW_1 0 (List.mem_of_getElem? (i := 15) rfl) rfl
theorem mw16 : (Jvm.Cond.classLink "MarginnoteLaw" (8 : Nat) "Marginnote") ∈ GW := GW_1 0 (List.mem_of_getElem? (i := 16) rfl) rfl
theorem mw17 : (Jvm.Cond.instantiable "Marginnote" (11 : Nat)) ∈ GW := GW_1 0 (List.mem_of_getElem? (i := 17) rfl) rfl
theorem mw18 : (Jvm.Cond.methodLink "MarginnoteLaw" (150 : Nat) ({ cls := "Marginnote", name := "<init>", desc := "()V" } : Jvm.MethodName)) ∈ GW := GW_1 0 (List.mem_of_getElem? (i := 18) rfl) rfl
theorem mw19 : (Jvm.Cond.instanceMethod ({ cls := "Marginnote", name := "<init>", desc := "()V" } : Jvm.MethodName)) ∈ GW := GW_1 0 (List.mem_of_getElem? (i := 19) rfl) rfl
theorem mw20 : (Jvm.Cond.code ({ cls := "Marginnote", name := "<init>", desc := "()V" } : Jvm.MethodName) prog_1_method_1_code (2 : Nat) (Option.none : Option Jvm.ClassFile.FieldType)) ∈ GW := GW_1 0 (List.mem_of_getElem? (i := 20) rfl) rfl
theorem mw21 : (Jvm.Cond.methodLink "Marginnote" (3 : Nat) ({ cls := "java/lang/Object", name := "<init>", desc := "()V" } : Jvm.MethodName)) ∈ GW := GW_1 0 (List.mem_of_getElem? (i := 21) rfl) rfl
theorem mw22 : (Jvm.Cond.instanceMethod ({ cls := "java/lang/Object", name := "<init>", desc := "()V" } : Jvm.MethodName)) ∈ GW := GW_1 0 (List.mem_of_getElem? (i := 22) rfl) rfl
theorem mw23 : (Jvm.Cond.code ({ cls := "java/lang/Object", name := "<init>", desc := "()V" } : Jvm.MethodName) object_method_1_code (1 : Nat) (Option.none : Option Jvm.ClassFile.FieldType)) ∈ GW := GW_1 0 (List.mem_of_getElem? (i := 23) rfl) rfl
theorem mw24 : (Jvm.Cond.classLink "Marginnote" (9 : Nat) "Marginnote$Book") ∈ GW := GW_1 0 (List.mem_of_getElem? (i := 24) rfl) rfl
theorem mw25 : (Jvm.Cond.instantiable "Marginnote$Book" (10 : Nat)) ∈ GW := GW_1 0 (List.mem_of_getElem? (i := 25) rfl) rfl
theorem mw27 : (Jvm.Cond.instanceMethod ({ cls := "Marginnote$Book", name := "<init>", desc := "()V" } : Jvm.MethodName)) ∈ GW := GW_1 0 (List.mem_of_getElem? (i := 27) rfl) rfl
theorem mw28 : (Jvm.Cond.code ({ cls := "Marginnote$Book", name := "<init>", desc := "()V" } : Jvm.MethodName) prog_3_method_1_code (1 : Nat) (Option.none : Option Jvm.ClassFile.FieldType)) ∈ GW := GW_1 0 (List.mem_of_getElem? (i := 28) rfl) rfl
theorem mw29 : (Jvm.Cond.methodLink "Marginnote$Book" (3 : Nat) ({ cls := "java/lang/Object", name := "<init>", desc := "()V" } : Jvm.MethodName)) ∈ GW := GW_1 0 (List.mem_of_getElem? (i := 29) rfl) rfl
theorem mw30 : (Jvm.Cond.fieldLink "Marginnote$Book" (9 : Nat) "Marginnote$Book" "writers" "[I") ∈ GW := GW_1 0 (List.mem_of_getElem? (i := 30) rfl) rfl
theorem mw31 : (Jvm.Cond.fieldLink "Marginnote$Book" (15 : Nat) "Marginnote$Book" "counts" "[I") ∈ GW := GW_1 0 (List.mem_of_getElem? (i := 31) rfl) rfl
theorem mw32 : (Jvm.Cond.fieldLink "Marginnote$Book" (18 : Nat) "Marginnote$Book" "kinds" "[I") ∈ GW := GW_1 0 (List.mem_of_getElem? (i := 32) rfl) rfl
theorem mw33 : (Jvm.Cond.fieldLink "Marginnote$Book" (21 : Nat) "Marginnote$Book" "firsts" "[I") ∈ GW := GW_1 0 (List.mem_of_getElem? (i := 33) rfl) rfl
theorem mw34 : (Jvm.Cond.fieldLink "Marginnote$Book" (24 : Nat) "Marginnote$Book" "seconds" "[I") ∈ GW := GW_1 0 (List.mem_of_getElem? (i := 34) rfl) rfl
theorem mw35 : (Jvm.Cond.fieldLink "Marginnote$Book" (27 : Nat) "Marginnote$Book" "values" "[I") ∈ GW := GW_1 0 (List.mem_of_getElem? (i := 35) rfl) rfl
theorem mw36 : (Jvm.Cond.fieldLink "Marginnote$Book" (30 : Nat) "Marginnote$Book" "flags" "[Z") ∈ GW := GW_1 0 (List.mem_of_getElem? (i := 36) rfl) rfl
theorem mw37 : (Jvm.Cond.fieldLink "Marginnote$Book" (34 : Nat) "Marginnote$Book" "order" "[I") ∈ GW := GW_1 0 (List.mem_of_getElem? (i := 37) rfl) rfl
theorem mw38 : (Jvm.Cond.fieldLink "Marginnote$Book" (37 : Nat) "Marginnote$Book" "made" "I") ∈ GW := GW_1 0 (List.mem_of_getElem? (i := 38) rfl) rfl
theorem mw41 : (Jvm.Cond.fieldLink "Marginnote$Book" (41 : Nat) "Marginnote$Book" "comments" "I") ∈ GW := GW_1 0 (List.mem_of_getElem? (i := 41) rfl) rfl
theorem mw43 : (Jvm.Cond.laysFinal "Marginnote$Book" "Marginnote$Book" "writers" "[I") ∈ GW := GW_1 0 (List.mem_of_getElem? (i := 43) rfl) rfl
theorem mw45 : (Jvm.Cond.laysFinal "Marginnote$Book" "Marginnote$Book" "counts" "[I") ∈ GW := GW_1 0 (List.mem_of_getElem? (i := 45) rfl) rfl
theorem mw47 : (Jvm.Cond.laysFinal "Marginnote$Book" "Marginnote$Book" "kinds" "[I") ∈ GW := GW_1 0 (List.mem_of_getElem? (i := 47) rfl) rfl
theorem mw49 : (Jvm.Cond.laysFinal "Marginnote$Book" "Marginnote$Book" "firsts" "[I") ∈ GW := GW_1 0 (List.mem_of_getElem? (i := 49) rfl) rfl
theorem mw51 : (Jvm.Cond.laysFinal "Marginnote$Book" "Marginnote$Book" "seconds" "[I") ∈ GW := GW_1 0 (List.mem_of_getElem? (i := 51) rfl) rfl
theorem mw53 : (Jvm.Cond.laysFinal "Marginnote$Book" "Marginnote$Book" "values" "[I") ∈ GW := GW_1 0 (List.mem_of_getElem? (i := 53) rfl) rfl
theorem mw55 : (Jvm.Cond.laysFinal "Marginnote$Book" "Marginnote$Book" "flags" "[Z") ∈ GW := GW_1 0 (List.mem_of_getElem? (i := 55) rfl) rfl
theorem mw57 : (Jvm.Cond.laysFinal "Marginnote$Book" "Marginnote$Book" "order" "[I") ∈ GW := GW_1 0 (List.mem_of_getElem? (i := 57) rfl) rfl
theorem mw59 : (Jvm.Cond.lays "Marginnote$Book" "Marginnote$Book" "made" "I") ∈ GW := GW_1 0 (List.mem_of_getElem? (i := 59) rfl) rfl
theorem mw61 : (Jvm.Cond.lays "Marginnote$Book" "Marginnote$Book" "comments" "I") ∈ GW := GW_1 0 (List.mem_of_getElem? (i := 61) rfl) rfl
theorem mw64 : (Jvm.Cond.arrayClass Jvm.ClassFile.FieldType.int) ∈ GW := GW_1 0 (List.mem_of_getElem? (i := 64) rfl) rfl
theorem mw65 : (Jvm.Cond.arrayClass Jvm.ClassFile.FieldType.boolean) ∈ GW := GW_1 0 (List.mem_of_getElem? (i := 65) rfl) rfl
theorem mw66 : (Jvm.Cond.classLink "Marginnote" (16 : Nat) "Marginnote$Site") ∈ GW := GW_1 0 (List.mem_of_getElem? (i := 66) rfl) rfl
theorem mw68 : (Jvm.Cond.instantiable "Marginnote$Site" (10 : Nat)) ∈ GW := GW_1 0 (List.mem_of_getElem? (i := 68) rfl) rfl
theorem mw69 : (Jvm.Cond.methodLink "Marginnote" (22 : Nat) ({ cls := "Marginnote$Site", name := "<init>", desc := "(ILMarginnote$Book;)V" } : Jvm.MethodName)) ∈ GW := GW_1 0 (List.mem_of_getElem? (i := 69) rfl) rfl
theorem mw70 : (Jvm.Cond.instanceMethod ({ cls := "Marginnote$Site", name := "<init>", desc := "(ILMarginnote$Book;)V" } : Jvm.MethodName)) ∈ GW := GW_1 0 (List.mem_of_getElem? (i := 70) rfl) rfl
theorem mw71 : (Jvm.Cond.code ({ cls := "Marginnote$Site", name := "<init>", desc := "(ILMarginnote$Book;)V" } : Jvm.MethodName) prog_6_method_1_code (3 : Nat) (Option.none : Option Jvm.ClassFile.FieldType)) ∈ GW := GW_1 0 (List.mem_of_getElem? (i := 71) rfl) rfl
theorem mw72 : (Jvm.Cond.methodLink "Marginnote$Site" (3 : Nat) ({ cls := "java/lang/Object", name := "<init>", desc := "()V" } : Jvm.MethodName)) ∈ GW := GW_1 0 (List.mem_of_getElem? (i := 72) rfl) rfl
theorem mw73 : (Jvm.Cond.classLink "Marginnote$Site" (9 : Nat) "Marginnote$ActSet") ∈ GW := GW_1 0 (List.mem_of_getElem? (i := 73) rfl) rfl
theorem mw74 : (Jvm.Cond.instantiable "Marginnote$ActSet" (2 : Nat)) ∈ GW := GW_1 0 (List.mem_of_getElem? (i := 74) rfl) rfl
theorem mw76 : (Jvm.Cond.instanceMethod ({ cls := "Marginnote$ActSet", name := "<init>", desc := "()V" } : Jvm.MethodName)) ∈ GW := GW_1 0 (List.mem_of_getElem? (i := 76) rfl) rfl
theorem mw77 : (Jvm.Cond.code ({ cls := "Marginnote$ActSet", name := "<init>", desc := "()V" } : Jvm.MethodName) prog_2_method_1_code (1 : Nat) (Option.none : Option Jvm.ClassFile.FieldType)) ∈ GW := GW_1 0 (List.mem_of_getElem? (i := 77) rfl) rfl
theorem mw78 : (Jvm.Cond.methodLink "Marginnote$ActSet" (3 : Nat) ({ cls := "java/lang/Object", name := "<init>", desc := "()V" } : Jvm.MethodName)) ∈ GW := GW_1 0 (List.mem_of_getElem? (i := 78) rfl) rfl
theorem mw79 : (Jvm.Cond.fieldLink "Marginnote$ActSet" (9 : Nat) "Marginnote$ActSet" "members" "[Z") ∈ GW := GW_1 0 (List.mem_of_getElem? (i := 79) rfl) rfl
theorem mw81 : (Jvm.Cond.fieldLink "Marginnote$ActSet" (15 : Nat) "Marginnote$ActSet" "size" "I") ∈ GW := GW_1 0 (List.mem_of_getElem? (i := 81) rfl) rfl
theorem mw83 : (Jvm.Cond.laysFinal "Marginnote$ActSet" "Marginnote$ActSet" "members" "[Z") ∈ GW := GW_1 0 (List.mem_of_getElem? (i := 83) rfl) rfl
theorem mw85 : (Jvm.Cond.lays "Marginnote$ActSet" "Marginnote$ActSet" "size" "I") ∈ GW := GW_1 0 (List.mem_of_getElem? (i := 85) rfl) rfl
theorem mw88 : (Jvm.Cond.classLink "Marginnote$Site" (39 : Nat) "Marginnote$Paper") ∈ GW := GW_1 0 (List.mem_of_getElem? (i := 88) rfl) rfl
theorem mw89 : (Jvm.Cond.instantiable "Marginnote$Paper" (12 : Nat)) ∈ GW := GW_1 0 (List.mem_of_getElem? (i := 89) rfl) rfl
theorem mw90 : (Jvm.Cond.methodLink "Marginnote$Site" (41 : Nat) ({ cls := "Marginnote$Paper", name := "<init>", desc := "(LMarginnote$Book;)V" } : Jvm.MethodName)) ∈ GW := GW_1 0 (List.mem_of_getElem? (i := 90) rfl) rfl
theorem mw91 : (Jvm.Cond.instanceMethod ({ cls := "Marginnote$Paper", name := "<init>", desc := "(LMarginnote$Book;)V" } : Jvm.MethodName)) ∈ GW := GW_1 0 (List.mem_of_getElem? (i := 91) rfl) rfl
theorem mw92 : (Jvm.Cond.code ({ cls := "Marginnote$Paper", name := "<init>", desc := "(LMarginnote$Book;)V" } : Jvm.MethodName) prog_5_method_1_code (3 : Nat) (Option.none : Option Jvm.ClassFile.FieldType)) ∈ GW := GW_1 0 (List.mem_of_getElem? (i := 92) rfl) rfl
theorem mw93 : (Jvm.Cond.methodLink "Marginnote$Paper" (3 : Nat) ({ cls := "java/lang/Object", name := "<init>", desc := "()V" } : Jvm.MethodName)) ∈ GW := GW_1 0 (List.mem_of_getElem? (i := 93) rfl) rfl
theorem mw94 : (Jvm.Cond.classLink "Marginnote$Paper" (40 : Nat) "[[I") ∈ GW := GW_1 0 (List.mem_of_getElem? (i := 94) rfl) rfl
theorem mw96 : (Jvm.Cond.fieldLink "Marginnote$Paper" (45 : Nat) "Marginnote$Paper" "book" "LMarginnote$Book;") ∈ GW := GW_1 0 (List.mem_of_getElem? (i := 96) rfl) rfl
theorem mw97 : (Jvm.Cond.fieldLink "Marginnote$Paper" (9 : Nat) "Marginnote$Paper" "row" "[I") ∈ GW := GW_1 0 (List.mem_of_getElem? (i := 97) rfl) rfl
theorem mw98 : (Jvm.Cond.fieldLink "Marginnote$Paper" (49 : Nat) "Marginnote$Paper" "rowSize" "I") ∈ GW := GW_1 0 (List.mem_of_getElem? (i := 98) rfl) rfl
theorem mw99 : (Jvm.Cond.fieldLink "Marginnote$Paper" (15 : Nat) "Marginnote$Paper" "states" "[I") ∈ GW := GW_1 0 (List.mem_of_getElem? (i := 99) rfl) rfl
theorem mw100 : (Jvm.Cond.fieldLink "Marginnote$Paper" (18 : Nat) "Marginnote$Paper" "breaks" "[Z") ∈ GW := GW_1 0 (List.mem_of_getElem? (i := 100) rfl) rfl
theorem mw101 : (Jvm.Cond.fieldLink "Marginnote$Paper" (22 : Nat) "Marginnote$Paper" "removed" "[Z") ∈ GW := GW_1 0 (List.mem_of_getElem? (i := 101) rfl) rfl
theorem mw102 : (Jvm.Cond.fieldLink "Marginnote$Paper" (25 : Nat) "Marginnote$Paper" "bits" "[I") ∈ GW := GW_1 0 (List.mem_of_getElem? (i := 102) rfl) rfl
theorem mw103 : (Jvm.Cond.fieldLink "Marginnote$Paper" (28 : Nat) "Marginnote$Paper" "asked" "[Z") ∈ GW := GW_1 0 (List.mem_of_getElem? (i := 103) rfl) rfl
theorem mw104 : (Jvm.Cond.fieldLink "Marginnote$Paper" (31 : Nat) "Marginnote$Paper" "undone" "[Z") ∈ GW := GW_1 0 (List.mem_of_getElem? (i := 104) rfl) rfl
theorem mw105 : (Jvm.Cond.fieldLink "Marginnote$Paper" (34 : Nat) "Marginnote$Paper" "kinds" "[I") ∈ GW := GW_1 0 (List.mem_of_getElem? (i := 105) rfl) rfl
theorem mw106 : (Jvm.Cond.fieldLink "Marginnote$Paper" (37 : Nat) "Marginnote$Paper" "aboves" "[I") ∈ GW := GW_1 0 (List.mem_of_getElem? (i := 106) rfl) rfl
theorem mw107 : (Jvm.Cond.fieldLink "Marginnote$Paper" (42 : Nat) "Marginnote$Paper" "levels" "[[I") ∈ GW := GW_1 0 (List.mem_of_getElem? (i := 107) rfl) rfl
theorem mw108 : (Jvm.Cond.laysFinal "Marginnote$Paper" "Marginnote$Paper" "book" "LMarginnote$Book;") ∈ GW := GW_1 0 (List.mem_of_getElem? (i := 108) rfl) rfl
theorem mw110 : (Jvm.Cond.laysFinal "Marginnote$Paper" "Marginnote$Paper" "row" "[I") ∈ GW := GW_1 0 (List.mem_of_getElem? (i := 110) rfl) rfl
theorem mw112 : (Jvm.Cond.lays "Marginnote$Paper" "Marginnote$Paper" "rowSize" "I") ∈ GW := GW_1 0 (List.mem_of_getElem? (i := 112) rfl) rfl
theorem mw114 : (Jvm.Cond.laysFinal "Marginnote$Paper" "Marginnote$Paper" "states" "[I") ∈ GW := GW_1 0 (List.mem_of_getElem? (i := 114) rfl) rfl
theorem mw116 : (Jvm.Cond.laysFinal "Marginnote$Paper" "Marginnote$Paper" "breaks" "[Z") ∈ GW := GW_1 0 (List.mem_of_getElem? (i := 116) rfl) rfl
theorem mw118 : (Jvm.Cond.laysFinal "Marginnote$Paper" "Marginnote$Paper" "removed" "[Z") ∈ GW := GW_1 0 (List.mem_of_getElem? (i := 118) rfl) rfl
theorem mw120 : (Jvm.Cond.laysFinal "Marginnote$Paper" "Marginnote$Paper" "bits" "[I") ∈ GW := GW_1 0 (List.mem_of_getElem? (i := 120) rfl) rfl
theorem mw122 : (Jvm.Cond.laysFinal "Marginnote$Paper" "Marginnote$Paper" "asked" "[Z") ∈ GW := GW_1 0 (List.mem_of_getElem? (i := 122) rfl) rfl
theorem mw124 : (Jvm.Cond.laysFinal "Marginnote$Paper" "Marginnote$Paper" "undone" "[Z") ∈ GW := GW_1 0 (List.mem_of_getElem? (i := 124) rfl) rfl
theorem mw126 : (Jvm.Cond.laysFinal "Marginnote$Paper" "Marginnote$Paper" "kinds" "[I") ∈ GW := GW_1 0 (List.mem_of_getElem? (i := 126) rfl) rfl
theorem mw128 : (Jvm.Cond.laysFinal "Marginnote$Paper" "Marginnote$Paper" "aboves" "[I") ∈ GW := GW_1 0 (List.mem_of_getElem? (i := 128) rfl) rfl
theorem mw130 : (Jvm.Cond.laysFinal "Marginnote$Paper" "Marginnote$Paper" "levels" "[[I") ∈ GW := GW_1 0 (List.mem_of_getElem? (i := 130) rfl) rfl
theorem mw133 : (Jvm.Cond.fieldLink "Marginnote$Site" (36 : Nat) "Marginnote$Site" "number" "I") ∈ GW := GW_1 0 (List.mem_of_getElem? (i := 133) rfl) rfl
theorem mw135 : (Jvm.Cond.fieldLink "Marginnote$Site" (12 : Nat) "Marginnote$Site" "held" "LMarginnote$ActSet;") ∈ GW := GW_1 0 (List.mem_of_getElem? (i := 135) rfl) rfl
theorem mw138 : (Jvm.Cond.fieldLink "Marginnote$Site" (18 : Nat) "Marginnote$Site" "journal" "[I") ∈ GW := GW_1 0 (List.mem_of_getElem? (i := 138) rfl) rfl
theorem mw139 : (Jvm.Cond.fieldLink "Marginnote$Site" (22 : Nat) "Marginnote$Site" "known" "[I") ∈ GW := GW_1 0 (List.mem_of_getElem? (i := 139) rfl) rfl
theorem mw141 : (Jvm.Cond.fieldLink "Marginnote$Site" (44 : Nat) "Marginnote$Site" "paper" "LMarginnote$Paper;") ∈ GW := GW_1 0 (List.mem_of_getElem? (i := 141) rfl) rfl
theorem mw143 : (Jvm.Cond.fieldLink "Marginnote$Site" (25 : Nat) "Marginnote$Site" "fresh" "Z") ∈ GW := GW_1 0 (List.mem_of_getElem? (i := 143) rfl) rfl
theorem mw146 : (Jvm.Cond.fieldLink "Marginnote$Site" (59 : Nat) "Marginnote$Site" "clock" "I") ∈ GW := GW_1 0 (List.mem_of_getElem? (i := 146) rfl) rfl
theorem mw148 : (Jvm.Cond.fieldLink "Marginnote$Site" (29 : Nat) "Marginnote$Site" "cursor" "I") ∈ GW := GW_1 0 (List.mem_of_getElem? (i := 148) rfl) rfl
theorem mw150 : (Jvm.Cond.fieldLink "Marginnote$Site" (33 : Nat) "Marginnote$Site" "tail" "I") ∈ GW := GW_1 0 (List.mem_of_getElem? (i := 150) rfl) rfl
theorem mw152 : (Jvm.Cond.laysFinal "Marginnote$Site" "Marginnote$Site" "number" "I") ∈ GW := GW_1 0 (List.mem_of_getElem? (i := 152) rfl) rfl
theorem mw154 : (Jvm.Cond.laysFinal "Marginnote$Site" "Marginnote$Site" "held" "LMarginnote$ActSet;") ∈ GW := GW_1 0 (List.mem_of_getElem? (i := 154) rfl) rfl
theorem mw156 : (Jvm.Cond.laysFinal "Marginnote$Site" "Marginnote$Site" "journal" "[I") ∈ GW := GW_1 0 (List.mem_of_getElem? (i := 156) rfl) rfl
theorem mw158 : (Jvm.Cond.laysFinal "Marginnote$Site" "Marginnote$Site" "known" "[I") ∈ GW := GW_1 0 (List.mem_of_getElem? (i := 158) rfl) rfl
theorem mw160 : (Jvm.Cond.laysFinal "Marginnote$Site" "Marginnote$Site" "paper" "LMarginnote$Paper;") ∈ GW := GW_1 0 (List.mem_of_getElem? (i := 160) rfl) rfl
theorem mw162 : (Jvm.Cond.lays "Marginnote$Site" "Marginnote$Site" "fresh" "Z") ∈ GW := GW_1 0 (List.mem_of_getElem? (i := 162) rfl) rfl
theorem mw164 : (Jvm.Cond.lays "Marginnote$Site" "Marginnote$Site" "proposing" "Z") ∈ GW := GW_1 0 (List.mem_of_getElem? (i := 164) rfl) rfl
theorem mw166 : (Jvm.Cond.lays "Marginnote$Site" "Marginnote$Site" "clock" "I") ∈ GW := GW_1 0 (List.mem_of_getElem? (i := 166) rfl) rfl
theorem mw168 : (Jvm.Cond.lays "Marginnote$Site" "Marginnote$Site" "cursor" "I") ∈ GW := GW_1 0 (List.mem_of_getElem? (i := 168) rfl) rfl
theorem mw170 : (Jvm.Cond.lays "Marginnote$Site" "Marginnote$Site" "tail" "I") ∈ GW := GW_1 0 (List.mem_of_getElem? (i := 170) rfl) rfl
theorem mw173 : (Jvm.Cond.classLink "Marginnote" (25 : Nat) "Marginnote$Message") ∈ GW := GW_1 0 (List.mem_of_getElem? (i := 173) rfl) rfl
theorem mw175 : (Jvm.Cond.classLink "Marginnote" (31 : Nat) "Marginnote$ActSet") ∈ GW := GW_1 0 (List.mem_of_getElem? (i := 175) rfl) rfl
theorem mw177 : (Jvm.Cond.classLink "Marginnote" (37 : Nat) "Marginnote$Paper") ∈ GW := GW_1 0 (List.mem_of_getElem? (i := 177) rfl) rfl
theorem mw178 : (Jvm.Cond.methodLink "Marginnote" (39 : Nat) ({ cls := "Marginnote$Paper", name := "<init>", desc := "(LMarginnote$Book;)V" } : Jvm.MethodName)) ∈ GW := GW_1 0 (List.mem_of_getElem? (i := 178) rfl) rfl
theorem mw180 : (Jvm.Cond.fieldLink "Marginnote" (12 : Nat) "Marginnote" "book" "LMarginnote$Book;") ∈ GW := GW_1 0 (List.mem_of_getElem? (i := 180) rfl) rfl
theorem mw181 : (Jvm.Cond.fieldLink "Marginnote" (18 : Nat) "Marginnote" "sites" "[LMarginnote$Site;") ∈ GW := GW_1 0 (List.mem_of_getElem? (i := 181) rfl) rfl
theorem mw182 : (Jvm.Cond.fieldLink "Marginnote" (27 : Nat) "Marginnote" "messages" "[LMarginnote$Message;") ∈ GW := GW_1 0 (List.mem_of_getElem? (i := 182) rfl) rfl
theorem mw183 : (Jvm.Cond.fieldLink "Marginnote" (33 : Nat) "Marginnote" "versions" "[LMarginnote$ActSet;") ∈ GW := GW_1 0 (List.mem_of_getElem? (i := 183) rfl) rfl
theorem mw184 : (Jvm.Cond.fieldLink "Marginnote" (42 : Nat) "Marginnote" "scratch" "LMarginnote$Paper;") ∈ GW := GW_1 0 (List.mem_of_getElem? (i := 184) rfl) rfl
theorem mw185 : (Jvm.Cond.fieldLink "Marginnote" (46 : Nat) "Marginnote" "otherScratch" "LMarginnote$Paper;") ∈ GW := GW_1 0 (List.mem_of_getElem? (i := 185) rfl) rfl
theorem mw186 : (Jvm.Cond.fieldLink "Marginnote" (50 : Nat) "Marginnote" "scratchSet" "LMarginnote$ActSet;") ∈ GW := GW_1 0 (List.mem_of_getElem? (i := 186) rfl) rfl
theorem mw187 : (Jvm.Cond.fieldLink "Marginnote" (54 : Nat) "Marginnote" "picked" "[I") ∈ GW := GW_1 0 (List.mem_of_getElem? (i := 187) rfl) rfl
theorem mw188 : (Jvm.Cond.fieldLink "Marginnote" (58 : Nat) "Marginnote" "owners" "[I") ∈ GW := GW_1 0 (List.mem_of_getElem? (i := 188) rfl) rfl
theorem mw189 : (Jvm.Cond.fieldLink "Marginnote" (179 : Nat) "Marginnote" "messageCount" "I") ∈ GW := GW_1 0 (List.mem_of_getElem? (i := 189) rfl) rfl
theorem mw190 : (Jvm.Cond.fieldLink "Marginnote" (241 : Nat) "Marginnote" "versionCount" "I") ∈ GW := GW_1 0 (List.mem_of_getElem? (i := 190) rfl) rfl
theorem mw191 : (Jvm.Cond.laysFinal "Marginnote" "Marginnote" "book" "LMarginnote$Book;") ∈ GW := GW_1 0 (List.mem_of_getElem? (i := 191) rfl) rfl
theorem mw193 : (Jvm.Cond.laysFinal "Marginnote" "Marginnote" "sites" "[LMarginnote$Site;") ∈ GW := GW_1 0 (List.mem_of_getElem? (i := 193) rfl) rfl
theorem mw195 : (Jvm.Cond.laysFinal "Marginnote" "Marginnote" "messages" "[LMarginnote$Message;") ∈ GW := GW_1 0 (List.mem_of_getElem? (i := 195) rfl) rfl
theorem mw197 : (Jvm.Cond.laysFinal "Marginnote" "Marginnote" "versions" "[LMarginnote$ActSet;") ∈ GW := GW_1 0 (List.mem_of_getElem? (i := 197) rfl) rfl
theorem mw199 : (Jvm.Cond.laysFinal "Marginnote" "Marginnote" "scratch" "LMarginnote$Paper;") ∈ GW := GW_1 0 (List.mem_of_getElem? (i := 199) rfl) rfl
theorem mw201 : (Jvm.Cond.laysFinal "Marginnote" "Marginnote" "otherScratch" "LMarginnote$Paper;") ∈ GW := GW_1 0 (List.mem_of_getElem? (i := 201) rfl) rfl
theorem mw203 : (Jvm.Cond.laysFinal "Marginnote" "Marginnote" "scratchSet" "LMarginnote$ActSet;") ∈ GW := GW_1 0 (List.mem_of_getElem? (i := 203) rfl) rfl
theorem mw205 : (Jvm.Cond.laysFinal "Marginnote" "Marginnote" "picked" "[I") ∈ GW := GW_1 0 (List.mem_of_getElem? (i := 205) rfl) rfl
theorem mw207 : (Jvm.Cond.laysFinal "Marginnote" "Marginnote" "owners" "[I") ∈ GW := GW_1 0 (List.mem_of_getElem? (i := 207) rfl) rfl
theorem mw209 : (Jvm.Cond.lays "Marginnote" "Marginnote" "messageCount" "I") ∈ GW := GW_1 0 (List.mem_of_getElem? (i := 209) rfl) rfl
theorem mw211 : (Jvm.Cond.lays "Marginnote" "Marginnote" "versionCount" "I") ∈ GW := GW_1 0 (List.mem_of_getElem? (i := 211) rfl) rfl
theorem mw214 : (Jvm.Cond.methodLink "MarginnoteLaw" (280 : Nat) ({ cls := "Marginnote", name := "acts", desc := "()I" } : Jvm.MethodName)) ∈ GW := GW_1 0 (List.mem_of_getElem? (i := 214) rfl) rfl
theorem mw215 : (Jvm.Cond.instanceMethod ({ cls := "Marginnote", name := "acts", desc := "()I" } : Jvm.MethodName)) ∈ GW := GW_1 0 (List.mem_of_getElem? (i := 215) rfl) rfl
theorem mw216 : (Jvm.Cond.selects "Marginnote" ({ cls := "Marginnote", name := "acts", desc := "()I" } : Jvm.MethodName) ({ cls := "Marginnote", name := "acts", desc := "()I" } : Jvm.MethodName)) ∈ GW := GW_1 0 (List.mem_of_getElem? (i := 216) rfl) rfl
theorem mw217 : (Jvm.Cond.code ({ cls := "Marginnote", name := "acts", desc := "()I" } : Jvm.MethodName) prog_1_method_40_code (1 : Nat) (Option.some Jvm.ClassFile.FieldType.int)) ∈ GW := GW_1 0 (List.mem_of_getElem? (i := 217) rfl) rfl
theorem mw218 : (Jvm.Cond.methodLink "MarginnoteLaw" (154 : Nat) ({ cls := "MarginnoteLaw", name := "type", desc := "(LMarginnote;IC[J)I" } : Jvm.MethodName)) ∈ GW := GW_1 0 (List.mem_of_getElem? (i := 218) rfl) rfl
theorem mw219 : (Jvm.Cond.static ({ cls := "MarginnoteLaw", name := "type", desc := "(LMarginnote;IC[J)I" } : Jvm.MethodName)) ∈ GW := GW_1 0 (List.mem_of_getElem? (i := 219) rfl) rfl
theorem mw220 : (Jvm.Cond.codeWith ({ cls := "MarginnoteLaw", name := "type", desc := "(LMarginnote;IC[J)I" } : Jvm.MethodName) method_3_code (5 : Nat) (Option.some Jvm.ClassFile.FieldType.int) [((0 : Nat), (10 : Nat), (13 : Nat), (13 : Nat)), ((0 : Nat), (10 : Nat), (17 : Nat), (15 : Nat)), ((0 : Nat), (10 : Nat), (21 : Nat), (17 : Nat))]) ∈ GW := GW_1 0 (List.mem_of_getElem? (i := 220) rfl) rfl
theorem mw221 : (Jvm.Cond.classLink "MarginnoteLaw" (13 : Nat) "java/lang/IndexOutOfBoundsException") ∈ GW := GW_1 0 (List.mem_of_getElem? (i := 221) rfl) rfl
theorem mw222 : (Jvm.Cond.classLink "MarginnoteLaw" (15 : Nat) "java/lang/IllegalArgumentException") ∈ GW := GW_1 0 (List.mem_of_getElem? (i := 222) rfl) rfl
theorem mw223 : (Jvm.Cond.classLink "MarginnoteLaw" (17 : Nat) "java/lang/IllegalStateException") ∈ GW := GW_1 0 (List.mem_of_getElem? (i := 223) rfl) rfl
theorem mw224 : (Jvm.Cond.methodLink "MarginnoteLaw" (7 : Nat) ({ cls := "Marginnote", name := "type", desc := "(IC)I" } : Jvm.MethodName)) ∈ GW := GW_1 0 (List.mem_of_getElem? (i := 224) rfl) rfl
theorem mw225 : (Jvm.Cond.instanceMethod ({ cls := "Marginnote", name := "type", desc := "(IC)I" } : Jvm.MethodName)) ∈ GW := GW_1 0 (List.mem_of_getElem? (i := 225) rfl) rfl
theorem mw226 : (Jvm.Cond.selects "Marginnote" ({ cls := "Marginnote", name := "type", desc := "(IC)I" } : Jvm.MethodName) ({ cls := "Marginnote", name := "type", desc := "(IC)I" } : Jvm.MethodName)) ∈ GW := GW_1 0 (List.mem_of_getElem? (i := 226) rfl) rfl
theorem mw227 : (Jvm.Cond.code ({ cls := "Marginnote", name := "type", desc := "(IC)I" } : Jvm.MethodName) prog_1_method_2_code (4 : Nat) (Option.some Jvm.ClassFile.FieldType.int)) ∈ GW := GW_1 0 (List.mem_of_getElem? (i := 227) rfl) rfl
theorem mw228 : (Jvm.Cond.methodLink "Marginnote" (61 : Nat) ({ cls := "Marginnote", name := "siteAt", desc := "(I)LMarginnote$Site;" } : Jvm.MethodName)) ∈ GW := GW_1 0 (List.mem_of_getElem? (i := 228) rfl) rfl
theorem mw230 : (Jvm.Cond.instanceMethod ({ cls := "Marginnote", name := "siteAt", desc := "(I)LMarginnote$Site;" } : Jvm.MethodName)) ∈ GW := GW_1 0 (List.mem_of_getElem? (i := 230) rfl) rfl
theorem mw231 : (Jvm.Cond.code ({ cls := "Marginnote", name := "siteAt", desc := "(I)LMarginnote$Site;" } : Jvm.MethodName) prog_1_method_45_code (2 : Nat) (Option.some (Jvm.ClassFile.FieldType.object "Marginnote$Site"))) ∈ GW := GW_1 0 (List.mem_of_getElem? (i := 231) rfl) rfl
theorem mw232 : (Jvm.Cond.classLink "Marginnote" (159 : Nat) "java/lang/IndexOutOfBoundsException") ∈ GW := GW_1 0 (List.mem_of_getElem? (i := 232) rfl) rfl
theorem mw233 : (Jvm.Cond.instantiable "java/lang/IndexOutOfBoundsException" (6 : Nat)) ∈ GW := GW_1 0 (List.mem_of_getElem? (i := 233) rfl) rfl
theorem mw241 : (Jvm.Cond.selects "java/lang/IndexOutOfBoundsException" ({ cls := "java/lang/Throwable", name := "fillInStackTrace", desc := "(I)Ljava/lang/Throwable;" } : Jvm.MethodName) ({ cls := "java/lang/Throwable", name := "fillInStackTrace", desc := "(I)Ljava/lang/Throwable;" } : Jvm.MethodName)) ∈ GW := GW_2 0 (List.mem_of_getElem? (i := 1) rfl) rfl
theorem mw242 : (Jvm.Cond.selects "java/lang/IndexOutOfBoundsException" ({ cls := "java/lang/Throwable", name := "fillInStackTrace", desc := "()Ljava/lang/Throwable;" } : Jvm.MethodName) ({ cls := "java/lang/Throwable", name := "fillInStackTrace", desc := "()Ljava/lang/Throwable;" } : Jvm.MethodName)) ∈ GW := GW_2 0 (List.mem_of_getElem? (i := 2) rfl) rfl
theorem mw243 : (Jvm.Cond.lays "java/lang/IndexOutOfBoundsException" "java/lang/Throwable" "cause" "Ljava/lang/Throwable;") ∈ GW := GW_2 0 (List.mem_of_getElem? (i := 3) rfl) rfl
theorem mw244 : (Jvm.Cond.lays "java/lang/Throwable" "java/lang/Throwable" "cause" "Ljava/lang/Throwable;") ∈ GW := GW_2 0 (List.mem_of_getElem? (i := 4) rfl) rfl
theorem mw245 : (Jvm.Cond.lays "java/lang/IndexOutOfBoundsException" "java/lang/Throwable" "stackTrace" "[Ljava/lang/StackTraceElement;") ∈ GW := GW_2 0 (List.mem_of_getElem? (i := 5) rfl) rfl
theorem mw246 : (Jvm.Cond.lays "java/lang/Throwable" "java/lang/Throwable" "stackTrace" "[Ljava/lang/StackTraceElement;") ∈ GW := GW_2 0 (List.mem_of_getElem? (i := 6) rfl) rfl
theorem mw247 : (Jvm.Cond.lays "java/lang/IndexOutOfBoundsException" "java/lang/Throwable" "suppressedExceptions" "Ljava/util/List;") ∈ GW := GW_2 0 (List.mem_of_getElem? (i := 7) rfl) rfl
theorem mw248 : (Jvm.Cond.lays "java/lang/Throwable" "java/lang/Throwable" "suppressedExceptions" "Ljava/util/List;") ∈ GW := GW_2 0 (List.mem_of_getElem? (i := 8) rfl) rfl
theorem mw249 : (Jvm.Cond.lays "java/lang/IndexOutOfBoundsException" "java/lang/Throwable" "detailMessage" "Ljava/lang/String;") ∈ GW := GW_2 0 (List.mem_of_getElem? (i := 9) rfl) rfl
theorem mw250 : (Jvm.Cond.lays "java/lang/Throwable" "java/lang/Throwable" "detailMessage" "Ljava/lang/String;") ∈ GW := GW_2 0 (List.mem_of_getElem? (i := 10) rfl) rfl
theorem mw251 : (Jvm.Cond.lays "java/lang/IndexOutOfBoundsException" "java/lang/Throwable" "backtrace" "Ljava/lang/Object;") ∈ GW := GW_2 0 (List.mem_of_getElem? (i := 11) rfl) rfl
theorem mw252 : (Jvm.Cond.lays "java/lang/Throwable" "java/lang/Throwable" "backtrace" "Ljava/lang/Object;") ∈ GW := GW_2 0 (List.mem_of_getElem? (i := 12) rfl) rfl
theorem mw286 : (Jvm.Cond.fieldLink "java/lang/Throwable" (198 : Nat) "java/lang/Throwable" "backtrace" "Ljava/lang/Object;") ∈ GW := GW_2 0 (List.mem_of_getElem? (i := 46) rfl) rfl
theorem mw255 : (Jvm.Cond.instanceMethod ({ cls := "java/lang/Throwable", name := "<init>", desc := "()V" } : Jvm.MethodName)) ∈ GW := GW_2 0 (List.mem_of_getElem? (i := 15) rfl) rfl
theorem mw256 : (Jvm.Cond.code ({ cls := "java/lang/Throwable", name := "<init>", desc := "()V" } : Jvm.MethodName) prog_18_method_1_code (1 : Nat) (Option.none : Option Jvm.ClassFile.FieldType)) ∈ GW := GW_2 0 (List.mem_of_getElem? (i := 16) rfl) rfl
theorem mw257 : (Jvm.Cond.methodLink "java/lang/Throwable" (1 : Nat) ({ cls := "java/lang/Object", name := "<init>", desc := "()V" } : Jvm.MethodName)) ∈ GW := GW_2 0 (List.mem_of_getElem? (i := 17) rfl) rfl
theorem mw258 : (Jvm.Cond.fieldLink "java/lang/Throwable" (13 : Nat) "java/lang/Throwable" "UNASSIGNED_STACK" "[Ljava/lang/StackTraceElement;") ∈ GW := GW_2 0 (List.mem_of_getElem? (i := 18) rfl) rfl
theorem mw260 : (Jvm.Cond.fieldLink "java/lang/Throwable" (20 : Nat) "java/lang/Throwable" "SUPPRESSED_SENTINEL" "Ljava/util/List;") ∈ GW := GW_2 0 (List.mem_of_getElem? (i := 20) rfl) rfl
theorem mw262 : (Jvm.Cond.methodLink "java/lang/Throwable" (27 : Nat) ({ cls := "java/lang/Throwable", name := "fillInStackTrace", desc := "()Ljava/lang/Throwable;" } : Jvm.MethodName)) ∈ GW := GW_2 0 (List.mem_of_getElem? (i := 22) rfl) rfl
theorem mw263 : (Jvm.Cond.instanceMethod ({ cls := "java/lang/Throwable", name := "fillInStackTrace", desc := "()Ljava/lang/Throwable;" } : Jvm.MethodName)) ∈ GW := GW_2 0 (List.mem_of_getElem? (i := 23) rfl) rfl
theorem mw265 : (Jvm.Cond.selects "java/lang/IllegalArgumentException" ({ cls := "java/lang/Throwable", name := "fillInStackTrace", desc := "()Ljava/lang/Throwable;" } : Jvm.MethodName) ({ cls := "java/lang/Throwable", name := "fillInStackTrace", desc := "()Ljava/lang/Throwable;" } : Jvm.MethodName)) ∈ GW := GW_2 0 (List.mem_of_getElem? (i := 25) rfl) rfl
theorem mw266 : (Jvm.Cond.selects "java/lang/IllegalStateException" ({ cls := "java/lang/Throwable", name := "fillInStackTrace", desc := "()Ljava/lang/Throwable;" } : Jvm.MethodName) ({ cls := "java/lang/Throwable", name := "fillInStackTrace", desc := "()Ljava/lang/Throwable;" } : Jvm.MethodName)) ∈ GW := GW_2 0 (List.mem_of_getElem? (i := 26) rfl) rfl
theorem mw268 : (Jvm.Cond.methodLink "java/lang/Throwable" (202 : Nat) ({ cls := "java/lang/Throwable", name := "fillInStackTrace", desc := "(I)Ljava/lang/Throwable;" } : Jvm.MethodName)) ∈ GW := GW_2 0 (List.mem_of_getElem? (i := 28) rfl) rfl
theorem mw270 : (Jvm.Cond.instanceMethod ({ cls := "java/lang/Throwable", name := "fillInStackTrace", desc := "(I)Ljava/lang/Throwable;" } : Jvm.MethodName)) ∈ GW := GW_2 0 (List.mem_of_getElem? (i := 30) rfl) rfl
theorem mw271 : (Jvm.Cond.instantiable "java/lang/Throwable" (6 : Nat)) ∈ GW := GW_2 0 (List.mem_of_getElem? (i := 31) rfl) rfl
theorem mw272 : (Jvm.Cond.native ({ cls := "java/lang/Throwable", name := "fillInStackTrace", desc := "(I)Ljava/lang/Throwable;" } : Jvm.MethodName)) ∈ GW := GW_2 0 (List.mem_of_getElem? (i := 32) rfl) rfl
theorem mw274 : (Jvm.Cond.methodLink "Marginnote" (163 : Nat) ({ cls := "java/lang/IndexOutOfBoundsException", name := "<init>", desc := "(Ljava/lang/String;)V" } : Jvm.MethodName)) ∈ GW := GW_2 0 (List.mem_of_getElem? (i := 34) rfl) rfl
theorem mw275 : (Jvm.Cond.instanceMethod ({ cls := "java/lang/IndexOutOfBoundsException", name := "<init>", desc := "(Ljava/lang/String;)V" } : Jvm.MethodName)) ∈ GW := GW_2 0 (List.mem_of_getElem? (i := 35) rfl) rfl
theorem mw276 : (Jvm.Cond.code ({ cls := "java/lang/IndexOutOfBoundsException", name := "<init>", desc := "(Ljava/lang/String;)V" } : Jvm.MethodName) prog_13_method_2_code (2 : Nat) (Option.none : Option Jvm.ClassFile.FieldType)) ∈ GW := GW_2 0 (List.mem_of_getElem? (i := 36) rfl) rfl
theorem mw277 : (Jvm.Cond.methodLink "java/lang/IndexOutOfBoundsException" (7 : Nat) ({ cls := "java/lang/RuntimeException", name := "<init>", desc := "(Ljava/lang/String;)V" } : Jvm.MethodName)) ∈ GW := GW_2 0 (List.mem_of_getElem? (i := 37) rfl) rfl
theorem mw278 : (Jvm.Cond.instanceMethod ({ cls := "java/lang/RuntimeException", name := "<init>", desc := "(Ljava/lang/String;)V" } : Jvm.MethodName)) ∈ GW := GW_2 0 (List.mem_of_getElem? (i := 38) rfl) rfl
theorem mw279 : (Jvm.Cond.code ({ cls := "java/lang/RuntimeException", name := "<init>", desc := "(Ljava/lang/String;)V" } : Jvm.MethodName) prog_15_method_2_code (2 : Nat) (Option.none : Option Jvm.ClassFile.FieldType)) ∈ GW := GW_2 0 (List.mem_of_getElem? (i := 39) rfl) rfl
theorem mw280 : (Jvm.Cond.methodLink "java/lang/RuntimeException" (7 : Nat) ({ cls := "java/lang/Exception", name := "<init>", desc := "(Ljava/lang/String;)V" } : Jvm.MethodName)) ∈ GW := GW_2 0 (List.mem_of_getElem? (i := 40) rfl) rfl
theorem mw281 : (Jvm.Cond.instanceMethod ({ cls := "java/lang/Exception", name := "<init>", desc := "(Ljava/lang/String;)V" } : Jvm.MethodName)) ∈ GW := GW_2 0 (List.mem_of_getElem? (i := 41) rfl) rfl
theorem mw282 : (Jvm.Cond.code ({ cls := "java/lang/Exception", name := "<init>", desc := "(Ljava/lang/String;)V" } : Jvm.MethodName) prog_10_method_2_code (2 : Nat) (Option.none : Option Jvm.ClassFile.FieldType)) ∈ GW := GW_2 0 (List.mem_of_getElem? (i := 42) rfl) rfl
theorem mw283 : (Jvm.Cond.methodLink "java/lang/Exception" (7 : Nat) ({ cls := "java/lang/Throwable", name := "<init>", desc := "(Ljava/lang/String;)V" } : Jvm.MethodName)) ∈ GW := GW_2 0 (List.mem_of_getElem? (i := 43) rfl) rfl
theorem mw284 : (Jvm.Cond.instanceMethod ({ cls := "java/lang/Throwable", name := "<init>", desc := "(Ljava/lang/String;)V" } : Jvm.MethodName)) ∈ GW := GW_2 0 (List.mem_of_getElem? (i := 44) rfl) rfl
theorem mw285 : (Jvm.Cond.code ({ cls := "java/lang/Throwable", name := "<init>", desc := "(Ljava/lang/String;)V" } : Jvm.MethodName) prog_18_method_2_code (2 : Nat) (Option.none : Option Jvm.ClassFile.FieldType)) ∈ GW := GW_2 0 (List.mem_of_getElem? (i := 45) rfl) rfl
theorem mw287 : (Jvm.Cond.fieldLink "java/lang/Throwable" (31 : Nat) "java/lang/Throwable" "detailMessage" "Ljava/lang/String;") ∈ GW := GW_2 0 (List.mem_of_getElem? (i := 47) rfl) rfl
theorem mw288 : (Jvm.Cond.fieldLink "java/lang/Throwable" (7 : Nat) "java/lang/Throwable" "cause" "Ljava/lang/Throwable;") ∈ GW := GW_2 0 (List.mem_of_getElem? (i := 48) rfl) rfl
theorem mw289 : (Jvm.Cond.fieldLink "java/lang/Throwable" (17 : Nat) "java/lang/Throwable" "stackTrace" "[Ljava/lang/StackTraceElement;") ∈ GW := GW_2 0 (List.mem_of_getElem? (i := 49) rfl) rfl
theorem mw290 : (Jvm.Cond.fieldLink "java/lang/Throwable" (24 : Nat) "java/lang/Throwable" "suppressedExceptions" "Ljava/util/List;") ∈ GW := GW_2 0 (List.mem_of_getElem? (i := 50) rfl) rfl
theorem mw295 : (Jvm.Cond.lays "java/lang/IndexOutOfBoundsException" "java/lang/Throwable" "depth" "I") ∈ GW := GW_2 0 (List.mem_of_getElem? (i := 55) rfl) rfl
theorem mw299 : (Jvm.Cond.arrayClass Jvm.ClassFile.FieldType.byte) ∈ GW := GW_2 0 (List.mem_of_getElem? (i := 59) rfl) rfl
theorem mw300 : (Jvm.Cond.classLink "Marginnote" (65 : Nat) "java/lang/IllegalArgumentException") ∈ GW := GW_2 0 (List.mem_of_getElem? (i := 60) rfl) rfl
theorem mw301 : (Jvm.Cond.instantiable "java/lang/IllegalArgumentException" (6 : Nat)) ∈ GW := GW_2 0 (List.mem_of_getElem? (i := 61) rfl) rfl
theorem mw303 : (Jvm.Cond.selects "java/lang/IllegalArgumentException" ({ cls := "java/lang/Throwable", name := "fillInStackTrace", desc := "(I)Ljava/lang/Throwable;" } : Jvm.MethodName) ({ cls := "java/lang/Throwable", name := "fillInStackTrace", desc := "(I)Ljava/lang/Throwable;" } : Jvm.MethodName)) ∈ GW := GW_2 0 (List.mem_of_getElem? (i := 63) rfl) rfl
theorem mw304 : (Jvm.Cond.lays "java/lang/IllegalArgumentException" "java/lang/Throwable" "cause" "Ljava/lang/Throwable;") ∈ GW := GW_2 0 (List.mem_of_getElem? (i := 64) rfl) rfl
theorem mw305 : (Jvm.Cond.lays "java/lang/IllegalArgumentException" "java/lang/Throwable" "stackTrace" "[Ljava/lang/StackTraceElement;") ∈ GW := GW_2 0 (List.mem_of_getElem? (i := 65) rfl) rfl
theorem mw306 : (Jvm.Cond.lays "java/lang/IllegalArgumentException" "java/lang/Throwable" "suppressedExceptions" "Ljava/util/List;") ∈ GW := GW_2 0 (List.mem_of_getElem? (i := 66) rfl) rfl
theorem mw307 : (Jvm.Cond.lays "java/lang/IllegalArgumentException" "java/lang/Throwable" "detailMessage" "Ljava/lang/String;") ∈ GW := GW_2 0 (List.mem_of_getElem? (i := 67) rfl) rfl
theorem mw308 : (Jvm.Cond.lays "java/lang/IllegalArgumentException" "java/lang/Throwable" "backtrace" "Ljava/lang/Object;") ∈ GW := GW_2 0 (List.mem_of_getElem? (i := 68) rfl) rfl
theorem mw310 : (Jvm.Cond.methodLink "Marginnote" (69 : Nat) ({ cls := "java/lang/IllegalArgumentException", name := "<init>", desc := "(Ljava/lang/String;)V" } : Jvm.MethodName)) ∈ GW := GW_2 0 (List.mem_of_getElem? (i := 70) rfl) rfl
theorem mw311 : (Jvm.Cond.instanceMethod ({ cls := "java/lang/IllegalArgumentException", name := "<init>", desc := "(Ljava/lang/String;)V" } : Jvm.MethodName)) ∈ GW := GW_2 0 (List.mem_of_getElem? (i := 71) rfl) rfl
theorem mw312 : (Jvm.Cond.code ({ cls := "java/lang/IllegalArgumentException", name := "<init>", desc := "(Ljava/lang/String;)V" } : Jvm.MethodName) prog_11_method_2_code (2 : Nat) (Option.none : Option Jvm.ClassFile.FieldType)) ∈ GW := GW_2 0 (List.mem_of_getElem? (i := 72) rfl) rfl
theorem mw313 : (Jvm.Cond.methodLink "java/lang/IllegalArgumentException" (7 : Nat) ({ cls := "java/lang/RuntimeException", name := "<init>", desc := "(Ljava/lang/String;)V" } : Jvm.MethodName)) ∈ GW := GW_2 0 (List.mem_of_getElem? (i := 73) rfl) rfl
theorem mw314 : (Jvm.Cond.lays "java/lang/IllegalArgumentException" "java/lang/Throwable" "depth" "I") ∈ GW := GW_2 0 (List.mem_of_getElem? (i := 74) rfl) rfl
theorem mw316 : (Jvm.Cond.methodLink "Marginnote" (72 : Nat) ({ cls := "Marginnote", name := "paperOf", desc := "(LMarginnote$Site;)LMarginnote$Paper;" } : Jvm.MethodName)) ∈ GW := GW_2 0 (List.mem_of_getElem? (i := 76) rfl) rfl
theorem mw317 : (Jvm.Cond.static ({ cls := "Marginnote", name := "paperOf", desc := "(LMarginnote$Site;)LMarginnote$Paper;" } : Jvm.MethodName)) ∈ GW := GW_2 0 (List.mem_of_getElem? (i := 77) rfl) rfl
theorem mw318 : (Jvm.Cond.code ({ cls := "Marginnote", name := "paperOf", desc := "(LMarginnote$Site;)LMarginnote$Paper;" } : Jvm.MethodName) prog_1_method_56_code (1 : Nat) (Option.some (Jvm.ClassFile.FieldType.object "Marginnote$Paper"))) ∈ GW := GW_2 0 (List.mem_of_getElem? (i := 78) rfl) rfl
theorem mw319 : (Jvm.Cond.methodLink "Marginnote" (260 : Nat) ({ cls := "Marginnote$Paper", name := "doAll", desc := "(LMarginnote$ActSet;)V" } : Jvm.MethodName)) ∈ GW := GW_2 0 (List.mem_of_getElem? (i := 79) rfl) rfl
theorem mw320 : (Jvm.Cond.instanceMethod ({ cls := "Marginnote$Paper", name := "doAll", desc := "(LMarginnote$ActSet;)V" } : Jvm.MethodName)) ∈ GW := GW_2 0 (List.mem_of_getElem? (i := 80) rfl) rfl
theorem mw321 : (Jvm.Cond.selects "Marginnote$Paper" ({ cls := "Marginnote$Paper", name := "doAll", desc := "(LMarginnote$ActSet;)V" } : Jvm.MethodName) ({ cls := "Marginnote$Paper", name := "doAll", desc := "(LMarginnote$ActSet;)V" } : Jvm.MethodName)) ∈ GW := GW_2 0 (List.mem_of_getElem? (i := 81) rfl) rfl
theorem mw322 : (Jvm.Cond.code ({ cls := "Marginnote$Paper", name := "doAll", desc := "(LMarginnote$ActSet;)V" } : Jvm.MethodName) prog_5_method_3_code (4 : Nat) (Option.none : Option Jvm.ClassFile.FieldType)) ∈ GW := GW_2 0 (List.mem_of_getElem? (i := 82) rfl) rfl
theorem mw323 : (Jvm.Cond.methodLink "Marginnote$Paper" (58 : Nat) ({ cls := "Marginnote$Paper", name := "clear", desc := "()V" } : Jvm.MethodName)) ∈ GW := GW_2 0 (List.mem_of_getElem? (i := 83) rfl) rfl
theorem mw325 : (Jvm.Cond.instanceMethod ({ cls := "Marginnote$Paper", name := "clear", desc := "()V" } : Jvm.MethodName)) ∈ GW := GW_2 0 (List.mem_of_getElem? (i := 85) rfl) rfl
theorem mw326 : (Jvm.Cond.code ({ cls := "Marginnote$Paper", name := "clear", desc := "()V" } : Jvm.MethodName) prog_5_method_2_code (3 : Nat) (Option.none : Option Jvm.ClassFile.FieldType)) ∈ GW := GW_2 0 (List.mem_of_getElem? (i := 86) rfl) rfl
theorem mw327 : (Jvm.Cond.methodLink "Marginnote$Paper" (61 : Nat) ({ cls := "Marginnote$Paper", name := "findUndone", desc := "(LMarginnote$ActSet;)V" } : Jvm.MethodName)) ∈ GW := GW_2 0 (List.mem_of_getElem? (i := 87) rfl) rfl
theorem mw329 : (Jvm.Cond.instanceMethod ({ cls := "Marginnote$Paper", name := "findUndone", desc := "(LMarginnote$ActSet;)V" } : Jvm.MethodName)) ∈ GW := GW_2 0 (List.mem_of_getElem? (i := 89) rfl) rfl
theorem mw330 : (Jvm.Cond.code ({ cls := "Marginnote$Paper", name := "findUndone", desc := "(LMarginnote$ActSet;)V" } : Jvm.MethodName) prog_5_method_4_code (6 : Nat) (Option.none : Option Jvm.ClassFile.FieldType)) ∈ GW := GW_2 0 (List.mem_of_getElem? (i := 90) rfl) rfl
theorem mw331 : (Jvm.Cond.methodLink "Marginnote$Paper" (65 : Nat) ({ cls := "Marginnote$Book", name := "inOrder", desc := "(I)I" } : Jvm.MethodName)) ∈ GW := GW_2 0 (List.mem_of_getElem? (i := 91) rfl) rfl
theorem mw332 : (Jvm.Cond.instanceMethod ({ cls := "Marginnote$Book", name := "inOrder", desc := "(I)I" } : Jvm.MethodName)) ∈ GW := GW_2 0 (List.mem_of_getElem? (i := 92) rfl) rfl
theorem mw333 : (Jvm.Cond.selects "Marginnote$Book" ({ cls := "Marginnote$Book", name := "inOrder", desc := "(I)I" } : Jvm.MethodName) ({ cls := "Marginnote$Book", name := "inOrder", desc := "(I)I" } : Jvm.MethodName)) ∈ GW := GW_2 0 (List.mem_of_getElem? (i := 93) rfl) rfl
theorem mw334 : (Jvm.Cond.code ({ cls := "Marginnote$Book", name := "inOrder", desc := "(I)I" } : Jvm.MethodName) prog_3_method_5_code (2 : Nat) (Option.some Jvm.ClassFile.FieldType.int)) ∈ GW := GW_2 0 (List.mem_of_getElem? (i := 94) rfl) rfl
theorem mw335 : (Jvm.Cond.methodLink "Marginnote$Paper" (79 : Nat) ({ cls := "Marginnote$Book", name := "kindOf", desc := "(I)I" } : Jvm.MethodName)) ∈ GW := GW_2 0 (List.mem_of_getElem? (i := 95) rfl) rfl
theorem mw336 : (Jvm.Cond.instanceMethod ({ cls := "Marginnote$Book", name := "kindOf", desc := "(I)I" } : Jvm.MethodName)) ∈ GW := GW_2 0 (List.mem_of_getElem? (i := 96) rfl) rfl
theorem mw337 : (Jvm.Cond.selects "Marginnote$Book" ({ cls := "Marginnote$Book", name := "kindOf", desc := "(I)I" } : Jvm.MethodName) ({ cls := "Marginnote$Book", name := "kindOf", desc := "(I)I" } : Jvm.MethodName)) ∈ GW := GW_2 0 (List.mem_of_getElem? (i := 97) rfl) rfl
theorem mw338 : (Jvm.Cond.code ({ cls := "Marginnote$Book", name := "kindOf", desc := "(I)I" } : Jvm.MethodName) prog_3_method_8_code (2 : Nat) (Option.some Jvm.ClassFile.FieldType.int)) ∈ GW := GW_2 0 (List.mem_of_getElem? (i := 98) rfl) rfl
theorem mw339 : (Jvm.Cond.methodLink "Marginnote$Paper" (82 : Nat) ({ cls := "Marginnote$Book", name := "firstOf", desc := "(I)I" } : Jvm.MethodName)) ∈ GW := GW_2 0 (List.mem_of_getElem? (i := 99) rfl) rfl
theorem mw340 : (Jvm.Cond.instanceMethod ({ cls := "Marginnote$Book", name := "firstOf", desc := "(I)I" } : Jvm.MethodName)) ∈ GW := GW_2 0 (List.mem_of_getElem? (i := 100) rfl) rfl
theorem mw341 : (Jvm.Cond.selects "Marginnote$Book" ({ cls := "Marginnote$Book", name := "firstOf", desc := "(I)I" } : Jvm.MethodName) ({ cls := "Marginnote$Book", name := "firstOf", desc := "(I)I" } : Jvm.MethodName)) ∈ GW := GW_2 0 (List.mem_of_getElem? (i := 101) rfl) rfl
theorem mw342 : (Jvm.Cond.code ({ cls := "Marginnote$Book", name := "firstOf", desc := "(I)I" } : Jvm.MethodName) prog_3_method_9_code (2 : Nat) (Option.some Jvm.ClassFile.FieldType.int)) ∈ GW := GW_2 0 (List.mem_of_getElem? (i := 102) rfl) rfl
theorem mw343 : (Jvm.Cond.methodLink "Marginnote$Paper" (69 : Nat) ({ cls := "Marginnote$ActSet", name := "contains", desc := "(I)Z" } : Jvm.MethodName)) ∈ GW := GW_2 0 (List.mem_of_getElem? (i := 103) rfl) rfl
theorem mw344 : (Jvm.Cond.instanceMethod ({ cls := "Marginnote$ActSet", name := "contains", desc := "(I)Z" } : Jvm.MethodName)) ∈ GW := GW_2 0 (List.mem_of_getElem? (i := 104) rfl) rfl
theorem mw345 : (Jvm.Cond.selects "Marginnote$ActSet" ({ cls := "Marginnote$ActSet", name := "contains", desc := "(I)Z" } : Jvm.MethodName) ({ cls := "Marginnote$ActSet", name := "contains", desc := "(I)Z" } : Jvm.MethodName)) ∈ GW := GW_2 0 (List.mem_of_getElem? (i := 105) rfl) rfl
theorem mw346 : (Jvm.Cond.code ({ cls := "Marginnote$ActSet", name := "contains", desc := "(I)Z" } : Jvm.MethodName) prog_2_method_2_code (2 : Nat) (Option.some Jvm.ClassFile.FieldType.boolean)) ∈ GW := GW_2 0 (List.mem_of_getElem? (i := 106) rfl) rfl
theorem mw347 : (Jvm.Cond.methodLink "Marginnote$Paper" (85 : Nat) ({ cls := "Marginnote$Paper", name := "isNumber", desc := "(I)Z" } : Jvm.MethodName)) ∈ GW := GW_2 0 (List.mem_of_getElem? (i := 107) rfl) rfl
theorem mw348 : (Jvm.Cond.static ({ cls := "Marginnote$Paper", name := "isNumber", desc := "(I)Z" } : Jvm.MethodName)) ∈ GW := GW_2 0 (List.mem_of_getElem? (i := 108) rfl) rfl
theorem mw349 : (Jvm.Cond.code ({ cls := "Marginnote$Paper", name := "isNumber", desc := "(I)Z" } : Jvm.MethodName) prog_5_method_15_code (1 : Nat) (Option.some Jvm.ClassFile.FieldType.boolean)) ∈ GW := GW_2 0 (List.mem_of_getElem? (i := 109) rfl) rfl
theorem mw350 : (Jvm.Cond.methodLink "Marginnote$Paper" (75 : Nat) ({ cls := "Marginnote$Paper", name := "perform", desc := "(I)V" } : Jvm.MethodName)) ∈ GW := GW_2 0 (List.mem_of_getElem? (i := 110) rfl) rfl
theorem mw351 : (Jvm.Cond.instanceMethod ({ cls := "Marginnote$Paper", name := "perform", desc := "(I)V" } : Jvm.MethodName)) ∈ GW := GW_2 0 (List.mem_of_getElem? (i := 111) rfl) rfl
theorem mw352 : (Jvm.Cond.selects "Marginnote$Paper" ({ cls := "Marginnote$Paper", name := "perform", desc := "(I)V" } : Jvm.MethodName) ({ cls := "Marginnote$Paper", name := "perform", desc := "(I)V" } : Jvm.MethodName)) ∈ GW := GW_2 0 (List.mem_of_getElem? (i := 112) rfl) rfl
theorem mw353 : (Jvm.Cond.code ({ cls := "Marginnote$Paper", name := "perform", desc := "(I)V" } : Jvm.MethodName) prog_5_method_5_code (3 : Nat) (Option.none : Option Jvm.ClassFile.FieldType)) ∈ GW := GW_2 0 (List.mem_of_getElem? (i := 113) rfl) rfl
theorem mw354 : (Jvm.Cond.methodLink "Marginnote$Paper" (88 : Nat) ({ cls := "Marginnote$Paper", name := "wasUndone", desc := "(I)Z" } : Jvm.MethodName)) ∈ GW := GW_2 0 (List.mem_of_getElem? (i := 114) rfl) rfl
theorem mw355 : (Jvm.Cond.instanceMethod ({ cls := "Marginnote$Paper", name := "wasUndone", desc := "(I)Z" } : Jvm.MethodName)) ∈ GW := GW_2 0 (List.mem_of_getElem? (i := 115) rfl) rfl
theorem mw356 : (Jvm.Cond.selects "Marginnote$Paper" ({ cls := "Marginnote$Paper", name := "wasUndone", desc := "(I)Z" } : Jvm.MethodName) ({ cls := "Marginnote$Paper", name := "wasUndone", desc := "(I)Z" } : Jvm.MethodName)) ∈ GW := GW_2 0 (List.mem_of_getElem? (i := 116) rfl) rfl
theorem mw357 : (Jvm.Cond.code ({ cls := "Marginnote$Paper", name := "wasUndone", desc := "(I)Z" } : Jvm.MethodName) prog_5_method_16_code (2 : Nat) (Option.some Jvm.ClassFile.FieldType.boolean)) ∈ GW := GW_2 0 (List.mem_of_getElem? (i := 117) rfl) rfl
theorem mw358 : (Jvm.Cond.methodLink "Marginnote$Paper" (91 : Nat) ({ cls := "Marginnote$Paper", name := "putElement", desc := "(I)V" } : Jvm.MethodName)) ∈ GW := GW_2 0 (List.mem_of_getElem? (i := 118) rfl) rfl
theorem mw360 : (Jvm.Cond.instanceMethod ({ cls := "Marginnote$Paper", name := "putElement", desc := "(I)V" } : Jvm.MethodName)) ∈ GW := GW_2 0 (List.mem_of_getElem? (i := 120) rfl) rfl
theorem mw361 : (Jvm.Cond.code ({ cls := "Marginnote$Paper", name := "putElement", desc := "(I)V" } : Jvm.MethodName) prog_5_method_6_code (7 : Nat) (Option.none : Option Jvm.ClassFile.FieldType)) ∈ GW := GW_2 0 (List.mem_of_getElem? (i := 121) rfl) rfl
theorem mw362 : (Jvm.Cond.methodLink "Marginnote$Paper" (125 : Nat) ({ cls := "Marginnote$Paper", name := "placeOf", desc := "(I)I" } : Jvm.MethodName)) ∈ GW := GW_2 0 (List.mem_of_getElem? (i := 122) rfl) rfl
theorem mw364 : (Jvm.Cond.instanceMethod ({ cls := "Marginnote$Paper", name := "placeOf", desc := "(I)I" } : Jvm.MethodName)) ∈ GW := GW_2 0 (List.mem_of_getElem? (i := 124) rfl) rfl
theorem mw365 : (Jvm.Cond.code ({ cls := "Marginnote$Paper", name := "placeOf", desc := "(I)I" } : Jvm.MethodName) prog_5_method_29_code (3 : Nat) (Option.some Jvm.ClassFile.FieldType.int)) ∈ GW := GW_2 0 (List.mem_of_getElem? (i := 125) rfl) rfl
theorem mw366 : (Jvm.Cond.methodLink "Marginnote$Paper" (138 : Nat) ({ cls := "Marginnote$Paper", name := "inRow", desc := "(I)I" } : Jvm.MethodName)) ∈ GW := GW_2 0 (List.mem_of_getElem? (i := 126) rfl) rfl
theorem mw368 : (Jvm.Cond.instanceMethod ({ cls := "Marginnote$Paper", name := "inRow", desc := "(I)I" } : Jvm.MethodName)) ∈ GW := GW_2 0 (List.mem_of_getElem? (i := 128) rfl) rfl
theorem mw369 : (Jvm.Cond.code ({ cls := "Marginnote$Paper", name := "inRow", desc := "(I)I" } : Jvm.MethodName) prog_5_method_28_code (2 : Nat) (Option.some Jvm.ClassFile.FieldType.int)) ∈ GW := GW_2 0 (List.mem_of_getElem? (i := 129) rfl) rfl
theorem mw370 : (Jvm.Cond.methodLink "Marginnote$Paper" (128 : Nat) ({ cls := "Marginnote$Book", name := "siteOf", desc := "(I)I" } : Jvm.MethodName)) ∈ GW := GW_2 0 (List.mem_of_getElem? (i := 130) rfl) rfl
theorem mw371 : (Jvm.Cond.instanceMethod ({ cls := "Marginnote$Book", name := "siteOf", desc := "(I)I" } : Jvm.MethodName)) ∈ GW := GW_2 0 (List.mem_of_getElem? (i := 131) rfl) rfl
theorem mw372 : (Jvm.Cond.selects "Marginnote$Book" ({ cls := "Marginnote$Book", name := "siteOf", desc := "(I)I" } : Jvm.MethodName) ({ cls := "Marginnote$Book", name := "siteOf", desc := "(I)I" } : Jvm.MethodName)) ∈ GW := GW_2 0 (List.mem_of_getElem? (i := 132) rfl) rfl
theorem mw373 : (Jvm.Cond.code ({ cls := "Marginnote$Book", name := "siteOf", desc := "(I)I" } : Jvm.MethodName) prog_3_method_6_code (2 : Nat) (Option.some Jvm.ClassFile.FieldType.int)) ∈ GW := GW_2 0 (List.mem_of_getElem? (i := 133) rfl) rfl
theorem mw374 : (Jvm.Cond.methodLink "Marginnote$Paper" (131 : Nat) ({ cls := "Marginnote$Paper", name := "blockOf", desc := "(I)I" } : Jvm.MethodName)) ∈ GW := GW_2 0 (List.mem_of_getElem? (i := 134) rfl) rfl
theorem mw376 : (Jvm.Cond.instanceMethod ({ cls := "Marginnote$Paper", name := "blockOf", desc := "(I)I" } : Jvm.MethodName)) ∈ GW := GW_2 0 (List.mem_of_getElem? (i := 136) rfl) rfl
theorem mw377 : (Jvm.Cond.code ({ cls := "Marginnote$Paper", name := "blockOf", desc := "(I)I" } : Jvm.MethodName) prog_5_method_39_code (4 : Nat) (Option.some Jvm.ClassFile.FieldType.int)) ∈ GW := GW_2 0 (List.mem_of_getElem? (i := 137) rfl) rfl
theorem mw378 : (Jvm.Cond.methodLink "Marginnote$Paper" (153 : Nat) ({ cls := "Marginnote$Paper", name := "isShownBreak", desc := "(I)Z" } : Jvm.MethodName)) ∈ GW := GW_2 0 (List.mem_of_getElem? (i := 138) rfl) rfl
theorem mw380 : (Jvm.Cond.instanceMethod ({ cls := "Marginnote$Paper", name := "isShownBreak", desc := "(I)Z" } : Jvm.MethodName)) ∈ GW := GW_2 0 (List.mem_of_getElem? (i := 140) rfl) rfl
theorem mw381 : (Jvm.Cond.code ({ cls := "Marginnote$Paper", name := "isShownBreak", desc := "(I)Z" } : Jvm.MethodName) prog_5_method_25_code (2 : Nat) (Option.some Jvm.ClassFile.FieldType.boolean)) ∈ GW := GW_2 0 (List.mem_of_getElem? (i := 141) rfl) rfl
theorem mw382 : (Jvm.Cond.methodLink "Marginnote$Paper" (134 : Nat) ({ cls := "Marginnote$Paper", name := "levelIn", desc := "(II)I" } : Jvm.MethodName)) ∈ GW := GW_2 0 (List.mem_of_getElem? (i := 142) rfl) rfl
theorem mw383 : (Jvm.Cond.instanceMethod ({ cls := "Marginnote$Paper", name := "levelIn", desc := "(II)I" } : Jvm.MethodName)) ∈ GW := GW_2 0 (List.mem_of_getElem? (i := 143) rfl) rfl
theorem mw384 : (Jvm.Cond.selects "Marginnote$Paper" ({ cls := "Marginnote$Paper", name := "levelIn", desc := "(II)I" } : Jvm.MethodName) ({ cls := "Marginnote$Paper", name := "levelIn", desc := "(II)I" } : Jvm.MethodName)) ∈ GW := GW_2 0 (List.mem_of_getElem? (i := 144) rfl) rfl
theorem mw385 : (Jvm.Cond.code ({ cls := "Marginnote$Paper", name := "levelIn", desc := "(II)I" } : Jvm.MethodName) prog_5_method_40_code (3 : Nat) (Option.some Jvm.ClassFile.FieldType.int)) ∈ GW := GW_2 0 (List.mem_of_getElem? (i := 145) rfl) rfl
theorem mw386 : (Jvm.Cond.methodLink "Marginnote$Paper" (156 : Nat) ({ cls := "Marginnote$Paper", name := "isBlock", desc := "(I)Z" } : Jvm.MethodName)) ∈ GW := GW_2 0 (List.mem_of_getElem? (i := 146) rfl) rfl
theorem mw387 : (Jvm.Cond.static ({ cls := "Marginnote$Paper", name := "isBlock", desc := "(I)Z" } : Jvm.MethodName)) ∈ GW := GW_2 0 (List.mem_of_getElem? (i := 147) rfl) rfl
theorem mw388 : (Jvm.Cond.code ({ cls := "Marginnote$Paper", name := "isBlock", desc := "(I)Z" } : Jvm.MethodName) prog_5_method_38_code (1 : Nat) (Option.some Jvm.ClassFile.FieldType.boolean)) ∈ GW := GW_2 0 (List.mem_of_getElem? (i := 148) rfl) rfl
theorem mw389 : (Jvm.Cond.methodLink "Marginnote$Paper" (103 : Nat) ({ cls := "Marginnote$Book", name := "flagOf", desc := "(I)Z" } : Jvm.MethodName)) ∈ GW := GW_2 0 (List.mem_of_getElem? (i := 149) rfl) rfl
theorem mw390 : (Jvm.Cond.instanceMethod ({ cls := "Marginnote$Book", name := "flagOf", desc := "(I)Z" } : Jvm.MethodName)) ∈ GW := GW_2 0 (List.mem_of_getElem? (i := 150) rfl) rfl
theorem mw391 : (Jvm.Cond.selects "Marginnote$Book" ({ cls := "Marginnote$Book", name := "flagOf", desc := "(I)Z" } : Jvm.MethodName) ({ cls := "Marginnote$Book", name := "flagOf", desc := "(I)Z" } : Jvm.MethodName)) ∈ GW := GW_2 0 (List.mem_of_getElem? (i := 151) rfl) rfl
theorem mw392 : (Jvm.Cond.code ({ cls := "Marginnote$Book", name := "flagOf", desc := "(I)Z" } : Jvm.MethodName) prog_3_method_12_code (2 : Nat) (Option.some Jvm.ClassFile.FieldType.boolean)) ∈ GW := GW_2 0 (List.mem_of_getElem? (i := 152) rfl) rfl
theorem mw393 : (Jvm.Cond.methodLink "Marginnote$Paper" (141 : Nat) ({ cls := "Marginnote$Paper", name := "bitsOf", desc := "(I)I" } : Jvm.MethodName)) ∈ GW := GW_2 0 (List.mem_of_getElem? (i := 153) rfl) rfl
theorem mw395 : (Jvm.Cond.instanceMethod ({ cls := "Marginnote$Paper", name := "bitsOf", desc := "(I)I" } : Jvm.MethodName)) ∈ GW := GW_2 0 (List.mem_of_getElem? (i := 155) rfl) rfl
theorem mw396 : (Jvm.Cond.code ({ cls := "Marginnote$Paper", name := "bitsOf", desc := "(I)I" } : Jvm.MethodName) prog_5_method_26_code (2 : Nat) (Option.some Jvm.ClassFile.FieldType.int)) ∈ GW := GW_2 0 (List.mem_of_getElem? (i := 156) rfl) rfl
theorem mw397 : (Jvm.Cond.methodLink "Marginnote$Paper" (144 : Nat) ({ cls := "java/lang/System", name := "arraycopy", desc := "(Ljava/lang/Object;ILjava/lang/Object;II)V" } : Jvm.MethodName)) ∈ GW := GW_2 0 (List.mem_of_getElem? (i := 157) rfl) rfl
theorem mw398 : (Jvm.Cond.static ({ cls := "java/lang/System", name := "arraycopy", desc := "(Ljava/lang/Object;ILjava/lang/Object;II)V" } : Jvm.MethodName)) ∈ GW := GW_2 0 (List.mem_of_getElem? (i := 158) rfl) rfl
theorem mw399 : (Jvm.Cond.native ({ cls := "java/lang/System", name := "arraycopy", desc := "(Ljava/lang/Object;ILjava/lang/Object;II)V" } : Jvm.MethodName)) ∈ GW := GW_2 0 (List.mem_of_getElem? (i := 159) rfl) rfl
theorem mw400 : (Jvm.Cond.methodLink "Marginnote$Paper" (94 : Nat) ({ cls := "Marginnote$Paper", name := "removeElement", desc := "(I)V" } : Jvm.MethodName)) ∈ GW := GW_2 0 (List.mem_of_getElem? (i := 160) rfl) rfl
theorem mw402 : (Jvm.Cond.instanceMethod ({ cls := "Marginnote$Paper", name := "removeElement", desc := "(I)V" } : Jvm.MethodName)) ∈ GW := GW_2 0 (List.mem_of_getElem? (i := 162) rfl) rfl
theorem mw403 : (Jvm.Cond.code ({ cls := "Marginnote$Paper", name := "removeElement", desc := "(I)V" } : Jvm.MethodName) prog_5_method_7_code (6 : Nat) (Option.none : Option Jvm.ClassFile.FieldType)) ∈ GW := GW_2 0 (List.mem_of_getElem? (i := 163) rfl) rfl
theorem mw404 : (Jvm.Cond.methodLink "Marginnote$Paper" (97 : Nat) ({ cls := "Marginnote$Paper", name := "restoreElement", desc := "(I)V" } : Jvm.MethodName)) ∈ GW := GW_2 0 (List.mem_of_getElem? (i := 164) rfl) rfl
theorem mw406 : (Jvm.Cond.instanceMethod ({ cls := "Marginnote$Paper", name := "restoreElement", desc := "(I)V" } : Jvm.MethodName)) ∈ GW := GW_2 0 (List.mem_of_getElem? (i := 166) rfl) rfl
theorem mw407 : (Jvm.Cond.code ({ cls := "Marginnote$Paper", name := "restoreElement", desc := "(I)V" } : Jvm.MethodName) prog_5_method_8_code (3 : Nat) (Option.none : Option Jvm.ClassFile.FieldType)) ∈ GW := GW_2 0 (List.mem_of_getElem? (i := 167) rfl) rfl
theorem mw408 : (Jvm.Cond.methodLink "Marginnote$Paper" (100 : Nat) ({ cls := "Marginnote$Book", name := "valueOf", desc := "(I)I" } : Jvm.MethodName)) ∈ GW := GW_2 0 (List.mem_of_getElem? (i := 168) rfl) rfl
theorem mw409 : (Jvm.Cond.instanceMethod ({ cls := "Marginnote$Book", name := "valueOf", desc := "(I)I" } : Jvm.MethodName)) ∈ GW := GW_2 0 (List.mem_of_getElem? (i := 169) rfl) rfl
theorem mw410 : (Jvm.Cond.selects "Marginnote$Book" ({ cls := "Marginnote$Book", name := "valueOf", desc := "(I)I" } : Jvm.MethodName) ({ cls := "Marginnote$Book", name := "valueOf", desc := "(I)I" } : Jvm.MethodName)) ∈ GW := GW_2 0 (List.mem_of_getElem? (i := 170) rfl) rfl
theorem mw411 : (Jvm.Cond.code ({ cls := "Marginnote$Book", name := "valueOf", desc := "(I)I" } : Jvm.MethodName) prog_3_method_11_code (2 : Nat) (Option.some Jvm.ClassFile.FieldType.int)) ∈ GW := GW_2 0 (List.mem_of_getElem? (i := 171) rfl) rfl
theorem mw412 : (Jvm.Cond.methodLink "Marginnote$Paper" (106 : Nat) ({ cls := "Marginnote$Paper", name := "paint", desc := "(IIZ)V" } : Jvm.MethodName)) ∈ GW := GW_2 0 (List.mem_of_getElem? (i := 172) rfl) rfl
theorem mw414 : (Jvm.Cond.instanceMethod ({ cls := "Marginnote$Paper", name := "paint", desc := "(IIZ)V" } : Jvm.MethodName)) ∈ GW := GW_2 0 (List.mem_of_getElem? (i := 174) rfl) rfl
theorem mw415 : (Jvm.Cond.code ({ cls := "Marginnote$Paper", name := "paint", desc := "(IIZ)V" } : Jvm.MethodName) prog_5_method_9_code (12 : Nat) (Option.none : Option Jvm.ClassFile.FieldType)) ∈ GW := GW_2 0 (List.mem_of_getElem? (i := 175) rfl) rfl
theorem mw416 : (Jvm.Cond.methodLink "Marginnote$Paper" (150 : Nat) ({ cls := "Marginnote$Book", name := "secondOf", desc := "(I)I" } : Jvm.MethodName)) ∈ GW := GW_2 0 (List.mem_of_getElem? (i := 176) rfl) rfl
theorem mw417 : (Jvm.Cond.instanceMethod ({ cls := "Marginnote$Book", name := "secondOf", desc := "(I)I" } : Jvm.MethodName)) ∈ GW := GW_2 0 (List.mem_of_getElem? (i := 177) rfl) rfl
theorem mw418 : (Jvm.Cond.selects "Marginnote$Book" ({ cls := "Marginnote$Book", name := "secondOf", desc := "(I)I" } : Jvm.MethodName) ({ cls := "Marginnote$Book", name := "secondOf", desc := "(I)I" } : Jvm.MethodName)) ∈ GW := GW_2 0 (List.mem_of_getElem? (i := 178) rfl) rfl
theorem mw419 : (Jvm.Cond.code ({ cls := "Marginnote$Book", name := "secondOf", desc := "(I)I" } : Jvm.MethodName) prog_3_method_10_code (2 : Nat) (Option.some Jvm.ClassFile.FieldType.int)) ∈ GW := GW_2 0 (List.mem_of_getElem? (i := 179) rfl) rfl
theorem mw420 : (Jvm.Cond.methodLink "Marginnote$Paper" (110 : Nat) ({ cls := "Marginnote$Paper", name := "giveKind", desc := "(I)V" } : Jvm.MethodName)) ∈ GW := GW_2 0 (List.mem_of_getElem? (i := 180) rfl) rfl
theorem mw422 : (Jvm.Cond.instanceMethod ({ cls := "Marginnote$Paper", name := "giveKind", desc := "(I)V" } : Jvm.MethodName)) ∈ GW := GW_2 0 (List.mem_of_getElem? (i := 182) rfl) rfl
theorem mw423 : (Jvm.Cond.code ({ cls := "Marginnote$Paper", name := "giveKind", desc := "(I)V" } : Jvm.MethodName) prog_5_method_10_code (3 : Nat) (Option.none : Option Jvm.ClassFile.FieldType)) ∈ GW := GW_2 0 (List.mem_of_getElem? (i := 183) rfl) rfl
theorem mw424 : (Jvm.Cond.methodLink "Marginnote$Paper" (113 : Nat) ({ cls := "Marginnote$Paper", name := "putUnder", desc := "(I)V" } : Jvm.MethodName)) ∈ GW := GW_2 0 (List.mem_of_getElem? (i := 184) rfl) rfl
theorem mw426 : (Jvm.Cond.instanceMethod ({ cls := "Marginnote$Paper", name := "putUnder", desc := "(I)V" } : Jvm.MethodName)) ∈ GW := GW_2 0 (List.mem_of_getElem? (i := 186) rfl) rfl
theorem mw427 : (Jvm.Cond.code ({ cls := "Marginnote$Paper", name := "putUnder", desc := "(I)V" } : Jvm.MethodName) prog_5_method_11_code (4 : Nat) (Option.none : Option Jvm.ClassFile.FieldType)) ∈ GW := GW_2 0 (List.mem_of_getElem? (i := 187) rfl) rfl
theorem mw428 : (Jvm.Cond.methodLink "Marginnote$Paper" (159 : Nat) ({ cls := "Marginnote$Paper", name := "comesTo", desc := "(II)Z" } : Jvm.MethodName)) ∈ GW := GW_2 0 (List.mem_of_getElem? (i := 188) rfl) rfl
theorem mw430 : (Jvm.Cond.instanceMethod ({ cls := "Marginnote$Paper", name := "comesTo", desc := "(II)Z" } : Jvm.MethodName)) ∈ GW := GW_2 0 (List.mem_of_getElem? (i := 190) rfl) rfl
theorem mw431 : (Jvm.Cond.code ({ cls := "Marginnote$Paper", name := "comesTo", desc := "(II)Z" } : Jvm.MethodName) prog_5_method_12_code (5 : Nat) (Option.some Jvm.ClassFile.FieldType.boolean)) ∈ GW := GW_2 0 (List.mem_of_getElem? (i := 191) rfl) rfl
theorem mw433 : (Jvm.Cond.static ({ cls := "Marginnote", name := "commentBit", desc := "(I)I" } : Jvm.MethodName)) ∈ GW := GW_2 0 (List.mem_of_getElem? (i := 193) rfl) rfl
theorem mw434 : (Jvm.Cond.code ({ cls := "Marginnote", name := "commentBit", desc := "(I)I" } : Jvm.MethodName) prog_1_method_55_code (1 : Nat) (Option.some Jvm.ClassFile.FieldType.int)) ∈ GW := GW_2 0 (List.mem_of_getElem? (i := 194) rfl) rfl
theorem mw435 : (Jvm.Cond.methodLink "Marginnote$Paper" (119 : Nat) ({ cls := "Marginnote$Paper", name := "settle", desc := "(I)V" } : Jvm.MethodName)) ∈ GW := GW_2 0 (List.mem_of_getElem? (i := 195) rfl) rfl
theorem mw437 : (Jvm.Cond.instanceMethod ({ cls := "Marginnote$Paper", name := "settle", desc := "(I)V" } : Jvm.MethodName)) ∈ GW := GW_2 0 (List.mem_of_getElem? (i := 197) rfl) rfl
theorem mw438 : (Jvm.Cond.code ({ cls := "Marginnote$Paper", name := "settle", desc := "(I)V" } : Jvm.MethodName) prog_5_method_13_code (5 : Nat) (Option.none : Option Jvm.ClassFile.FieldType)) ∈ GW := GW_2 0 (List.mem_of_getElem? (i := 198) rfl) rfl
theorem mw439 : (Jvm.Cond.methodLink "Marginnote$Paper" (163 : Nat) ({ cls := "Marginnote$Paper", name := "elementOf", desc := "(I)I" } : Jvm.MethodName)) ∈ GW := GW_2 0 (List.mem_of_getElem? (i := 199) rfl) rfl
theorem mw441 : (Jvm.Cond.instanceMethod ({ cls := "Marginnote$Paper", name := "elementOf", desc := "(I)I" } : Jvm.MethodName)) ∈ GW := GW_2 0 (List.mem_of_getElem? (i := 201) rfl) rfl
theorem mw442 : (Jvm.Cond.code ({ cls := "Marginnote$Paper", name := "elementOf", desc := "(I)I" } : Jvm.MethodName) prog_5_method_18_code (2 : Nat) (Option.some Jvm.ClassFile.FieldType.int)) ∈ GW := GW_2 0 (List.mem_of_getElem? (i := 202) rfl) rfl
theorem mw443 : (Jvm.Cond.methodLink "Marginnote$Paper" (169 : Nat) ({ cls := "Marginnote$Book", name := "makesElement", desc := "(I)Z" } : Jvm.MethodName)) ∈ GW := GW_2 0 (List.mem_of_getElem? (i := 203) rfl) rfl
theorem mw444 : (Jvm.Cond.instanceMethod ({ cls := "Marginnote$Book", name := "makesElement", desc := "(I)Z" } : Jvm.MethodName)) ∈ GW := GW_2 0 (List.mem_of_getElem? (i := 204) rfl) rfl
theorem mw445 : (Jvm.Cond.selects "Marginnote$Book" ({ cls := "Marginnote$Book", name := "makesElement", desc := "(I)Z" } : Jvm.MethodName) ({ cls := "Marginnote$Book", name := "makesElement", desc := "(I)Z" } : Jvm.MethodName)) ∈ GW := GW_2 0 (List.mem_of_getElem? (i := 205) rfl) rfl
theorem mw446 : (Jvm.Cond.code ({ cls := "Marginnote$Book", name := "makesElement", desc := "(I)Z" } : Jvm.MethodName) prog_3_method_13_code (2 : Nat) (Option.some Jvm.ClassFile.FieldType.boolean)) ∈ GW := GW_2 0 (List.mem_of_getElem? (i := 206) rfl) rfl
theorem mw447 : (Jvm.Cond.methodLink "Marginnote$Paper" (166 : Nat) ({ cls := "Marginnote$Paper", name := "isOpen", desc := "(I)Z" } : Jvm.MethodName)) ∈ GW := GW_2 0 (List.mem_of_getElem? (i := 207) rfl) rfl
theorem mw449 : (Jvm.Cond.instanceMethod ({ cls := "Marginnote$Paper", name := "isOpen", desc := "(I)Z" } : Jvm.MethodName)) ∈ GW := GW_2 0 (List.mem_of_getElem? (i := 209) rfl) rfl
theorem mw450 : (Jvm.Cond.code ({ cls := "Marginnote$Paper", name := "isOpen", desc := "(I)Z" } : Jvm.MethodName) prog_5_method_19_code (3 : Nat) (Option.some Jvm.ClassFile.FieldType.boolean)) ∈ GW := GW_2 0 (List.mem_of_getElem? (i := 210) rfl) rfl
theorem mw451 : (Jvm.Cond.methodLink "Marginnote$Paper" (172 : Nat) ({ cls := "Marginnote$Paper", name := "isSeen", desc := "(I)Z" } : Jvm.MethodName)) ∈ GW := GW_2 0 (List.mem_of_getElem? (i := 211) rfl) rfl
theorem mw452 : (Jvm.Cond.instanceMethod ({ cls := "Marginnote$Paper", name := "isSeen", desc := "(I)Z" } : Jvm.MethodName)) ∈ GW := GW_2 0 (List.mem_of_getElem? (i := 212) rfl) rfl
theorem mw453 : (Jvm.Cond.selects "Marginnote$Paper" ({ cls := "Marginnote$Paper", name := "isSeen", desc := "(I)Z" } : Jvm.MethodName) ({ cls := "Marginnote$Paper", name := "isSeen", desc := "(I)Z" } : Jvm.MethodName)) ∈ GW := GW_2 0 (List.mem_of_getElem? (i := 213) rfl) rfl
theorem mw454 : (Jvm.Cond.code ({ cls := "Marginnote$Paper", name := "isSeen", desc := "(I)Z" } : Jvm.MethodName) prog_5_method_22_code (2 : Nat) (Option.some Jvm.ClassFile.FieldType.boolean)) ∈ GW := GW_2 0 (List.mem_of_getElem? (i := 214) rfl) rfl
theorem mw455 : (Jvm.Cond.methodLink "Marginnote$Paper" (122 : Nat) ({ cls := "Marginnote$Paper", name := "giveLevel", desc := "(I)V" } : Jvm.MethodName)) ∈ GW := GW_2 0 (List.mem_of_getElem? (i := 215) rfl) rfl
theorem mw457 : (Jvm.Cond.instanceMethod ({ cls := "Marginnote$Paper", name := "giveLevel", desc := "(I)V" } : Jvm.MethodName)) ∈ GW := GW_2 0 (List.mem_of_getElem? (i := 217) rfl) rfl
theorem mw458 : (Jvm.Cond.code ({ cls := "Marginnote$Paper", name := "giveLevel", desc := "(I)V" } : Jvm.MethodName) prog_5_method_14_code (4 : Nat) (Option.none : Option Jvm.ClassFile.FieldType)) ∈ GW := GW_2 0 (List.mem_of_getElem? (i := 218) rfl) rfl
theorem mw459 : (Jvm.Cond.methodLink "Marginnote" (76 : Nat) ({ cls := "Marginnote", name := "writeBehindCursor", desc := "(LMarginnote$Site;LMarginnote$Paper;IC)I" } : Jvm.MethodName)) ∈ GW := GW_2 0 (List.mem_of_getElem? (i := 219) rfl) rfl
theorem mw461 : (Jvm.Cond.instanceMethod ({ cls := "Marginnote", name := "writeBehindCursor", desc := "(LMarginnote$Site;LMarginnote$Paper;IC)I" } : Jvm.MethodName)) ∈ GW := GW_2 0 (List.mem_of_getElem? (i := 221) rfl) rfl
theorem mw462 : (Jvm.Cond.code ({ cls := "Marginnote", name := "writeBehindCursor", desc := "(LMarginnote$Site;LMarginnote$Paper;IC)I" } : Jvm.MethodName) prog_1_method_57_code (7 : Nat) (Option.some Jvm.ClassFile.FieldType.int)) ∈ GW := GW_2 0 (List.mem_of_getElem? (i := 222) rfl) rfl
theorem mw464 : (Jvm.Cond.methodLink "Marginnote" (307 : Nat) ({ cls := "Marginnote$Paper", name := "levelIn", desc := "(II)I" } : Jvm.MethodName)) ∈ GW := GW_2 0 (List.mem_of_getElem? (i := 224) rfl) rfl
theorem mw465 : (Jvm.Cond.classLink "Marginnote" (100 : Nat) "java/lang/IllegalStateException") ∈ GW := GW_2 0 (List.mem_of_getElem? (i := 225) rfl) rfl
theorem mw466 : (Jvm.Cond.instantiable "java/lang/IllegalStateException" (6 : Nat)) ∈ GW := GW_2 0 (List.mem_of_getElem? (i := 226) rfl) rfl
theorem mw468 : (Jvm.Cond.selects "java/lang/IllegalStateException" ({ cls := "java/lang/Throwable", name := "fillInStackTrace", desc := "(I)Ljava/lang/Throwable;" } : Jvm.MethodName) ({ cls := "java/lang/Throwable", name := "fillInStackTrace", desc := "(I)Ljava/lang/Throwable;" } : Jvm.MethodName)) ∈ GW := GW_2 0 (List.mem_of_getElem? (i := 228) rfl) rfl
theorem mw469 : (Jvm.Cond.lays "java/lang/IllegalStateException" "java/lang/Throwable" "cause" "Ljava/lang/Throwable;") ∈ GW := GW_2 0 (List.mem_of_getElem? (i := 229) rfl) rfl
theorem mw470 : (Jvm.Cond.lays "java/lang/IllegalStateException" "java/lang/Throwable" "stackTrace" "[Ljava/lang/StackTraceElement;") ∈ GW := GW_2 0 (List.mem_of_getElem? (i := 230) rfl) rfl
theorem mw471 : (Jvm.Cond.lays "java/lang/IllegalStateException" "java/lang/Throwable" "suppressedExceptions" "Ljava/util/List;") ∈ GW := GW_2 0 (List.mem_of_getElem? (i := 231) rfl) rfl
theorem mw472 : (Jvm.Cond.lays "java/lang/IllegalStateException" "java/lang/Throwable" "detailMessage" "Ljava/lang/String;") ∈ GW := GW_2 0 (List.mem_of_getElem? (i := 232) rfl) rfl
theorem mw473 : (Jvm.Cond.lays "java/lang/IllegalStateException" "java/lang/Throwable" "backtrace" "Ljava/lang/Object;") ∈ GW := GW_2 0 (List.mem_of_getElem? (i := 233) rfl) rfl
theorem mw475 : (Jvm.Cond.methodLink "Marginnote" (104 : Nat) ({ cls := "java/lang/IllegalStateException", name := "<init>", desc := "(Ljava/lang/String;)V" } : Jvm.MethodName)) ∈ GW := GW_2 0 (List.mem_of_getElem? (i := 235) rfl) rfl
theorem mw476 : (Jvm.Cond.instanceMethod ({ cls := "java/lang/IllegalStateException", name := "<init>", desc := "(Ljava/lang/String;)V" } : Jvm.MethodName)) ∈ GW := GW_2 0 (List.mem_of_getElem? (i := 236) rfl) rfl
theorem mw477 : (Jvm.Cond.code ({ cls := "java/lang/IllegalStateException", name := "<init>", desc := "(Ljava/lang/String;)V" } : Jvm.MethodName) prog_12_method_2_code (2 : Nat) (Option.none : Option Jvm.ClassFile.FieldType)) ∈ GW := GW_2 0 (List.mem_of_getElem? (i := 237) rfl) rfl
theorem mw478 : (Jvm.Cond.methodLink "java/lang/IllegalStateException" (7 : Nat) ({ cls := "java/lang/RuntimeException", name := "<init>", desc := "(Ljava/lang/String;)V" } : Jvm.MethodName)) ∈ GW := GW_2 0 (List.mem_of_getElem? (i := 238) rfl) rfl
theorem mw479 : (Jvm.Cond.lays "java/lang/IllegalStateException" "java/lang/Throwable" "depth" "I") ∈ GW := GW_2 0 (List.mem_of_getElem? (i := 239) rfl) rfl
theorem mw481 : (Jvm.Cond.methodLink "Marginnote" (105 : Nat) ({ cls := "Marginnote", name := "checkRoomFor", desc := "(I)V" } : Jvm.MethodName)) ∈ GW := GW_3 0 (List.mem_of_getElem? (i := 1) rfl) rfl
theorem mw483 : (Jvm.Cond.instanceMethod ({ cls := "Marginnote", name := "checkRoomFor", desc := "(I)V" } : Jvm.MethodName)) ∈ GW := GW_3 0 (List.mem_of_getElem? (i := 3) rfl) rfl
theorem mw484 : (Jvm.Cond.code ({ cls := "Marginnote", name := "checkRoomFor", desc := "(I)V" } : Jvm.MethodName) prog_1_method_53_code (2 : Nat) (Option.none : Option Jvm.ClassFile.FieldType)) ∈ GW := GW_3 0 (List.mem_of_getElem? (i := 4) rfl) rfl
theorem mw486 : (Jvm.Cond.methodLink "Marginnote" (117 : Nat) ({ cls := "Marginnote", name := "make", desc := "(LMarginnote$Site;IIIIZ)I" } : Jvm.MethodName)) ∈ GW := GW_3 0 (List.mem_of_getElem? (i := 6) rfl) rfl
theorem mw488 : (Jvm.Cond.instanceMethod ({ cls := "Marginnote", name := "make", desc := "(LMarginnote$Site;IIIIZ)I" } : Jvm.MethodName)) ∈ GW := GW_3 0 (List.mem_of_getElem? (i := 8) rfl) rfl
theorem mw489 : (Jvm.Cond.code ({ cls := "Marginnote", name := "make", desc := "(LMarginnote$Site;IIIIZ)I" } : Jvm.MethodName) prog_1_method_59_code (9 : Nat) (Option.some Jvm.ClassFile.FieldType.int)) ∈ GW := GW_3 0 (List.mem_of_getElem? (i := 9) rfl) rfl
theorem mw490 : (Jvm.Cond.methodLink "Marginnote" (365 : Nat) ({ cls := "Marginnote$Book", name := "enter", desc := "(IIIIIIZ)I" } : Jvm.MethodName)) ∈ GW := GW_3 0 (List.mem_of_getElem? (i := 10) rfl) rfl
theorem mw491 : (Jvm.Cond.instanceMethod ({ cls := "Marginnote$Book", name := "enter", desc := "(IIIIIIZ)I" } : Jvm.MethodName)) ∈ GW := GW_3 0 (List.mem_of_getElem? (i := 11) rfl) rfl
theorem mw492 : (Jvm.Cond.selects "Marginnote$Book" ({ cls := "Marginnote$Book", name := "enter", desc := "(IIIIIIZ)I" } : Jvm.MethodName) ({ cls := "Marginnote$Book", name := "enter", desc := "(IIIIIIZ)I" } : Jvm.MethodName)) ∈ GW := GW_3 0 (List.mem_of_getElem? (i := 12) rfl) rfl
theorem mw493 : (Jvm.Cond.code ({ cls := "Marginnote$Book", name := "enter", desc := "(IIIIIIZ)I" } : Jvm.MethodName) prog_3_method_2_code (9 : Nat) (Option.some Jvm.ClassFile.FieldType.int)) ∈ GW := GW_3 0 (List.mem_of_getElem? (i := 13) rfl) rfl
theorem mw494 : (Jvm.Cond.methodLink "Marginnote$Book" (44 : Nat) ({ cls := "Marginnote$Book", name := "putInOrder", desc := "(I)V" } : Jvm.MethodName)) ∈ GW := GW_3 0 (List.mem_of_getElem? (i := 14) rfl) rfl
theorem mw496 : (Jvm.Cond.instanceMethod ({ cls := "Marginnote$Book", name := "putInOrder", desc := "(I)V" } : Jvm.MethodName)) ∈ GW := GW_3 0 (List.mem_of_getElem? (i := 16) rfl) rfl
theorem mw497 : (Jvm.Cond.code ({ cls := "Marginnote$Book", name := "putInOrder", desc := "(I)V" } : Jvm.MethodName) prog_3_method_3_code (3 : Nat) (Option.none : Option Jvm.ClassFile.FieldType)) ∈ GW := GW_3 0 (List.mem_of_getElem? (i := 17) rfl) rfl
theorem mw498 : (Jvm.Cond.methodLink "Marginnote$Book" (48 : Nat) ({ cls := "Marginnote$Book", name := "comesBefore", desc := "(II)Z" } : Jvm.MethodName)) ∈ GW := GW_3 0 (List.mem_of_getElem? (i := 18) rfl) rfl
theorem mw500 : (Jvm.Cond.instanceMethod ({ cls := "Marginnote$Book", name := "comesBefore", desc := "(II)Z" } : Jvm.MethodName)) ∈ GW := GW_3 0 (List.mem_of_getElem? (i := 20) rfl) rfl
theorem mw501 : (Jvm.Cond.code ({ cls := "Marginnote$Book", name := "comesBefore", desc := "(II)Z" } : Jvm.MethodName) prog_3_method_4_code (3 : Nat) (Option.some Jvm.ClassFile.FieldType.boolean)) ∈ GW := GW_3 0 (List.mem_of_getElem? (i := 21) rfl) rfl
theorem mw502 : (Jvm.Cond.methodLink "Marginnote$Book" (52 : Nat) ({ cls := "Marginnote$Book", name := "countOf", desc := "(I)I" } : Jvm.MethodName)) ∈ GW := GW_3 0 (List.mem_of_getElem? (i := 22) rfl) rfl
theorem mw503 : (Jvm.Cond.instanceMethod ({ cls := "Marginnote$Book", name := "countOf", desc := "(I)I" } : Jvm.MethodName)) ∈ GW := GW_3 0 (List.mem_of_getElem? (i := 23) rfl) rfl
theorem mw504 : (Jvm.Cond.selects "Marginnote$Book" ({ cls := "Marginnote$Book", name := "countOf", desc := "(I)I" } : Jvm.MethodName) ({ cls := "Marginnote$Book", name := "countOf", desc := "(I)I" } : Jvm.MethodName)) ∈ GW := GW_3 0 (List.mem_of_getElem? (i := 24) rfl) rfl
theorem mw505 : (Jvm.Cond.code ({ cls := "Marginnote$Book", name := "countOf", desc := "(I)I" } : Jvm.MethodName) prog_3_method_7_code (2 : Nat) (Option.some Jvm.ClassFile.FieldType.int)) ∈ GW := GW_3 0 (List.mem_of_getElem? (i := 25) rfl) rfl
theorem mw506 : (Jvm.Cond.methodLink "Marginnote$Book" (56 : Nat) ({ cls := "Marginnote$Book", name := "siteOf", desc := "(I)I" } : Jvm.MethodName)) ∈ GW := GW_3 0 (List.mem_of_getElem? (i := 26) rfl) rfl
theorem mw507 : (Jvm.Cond.methodLink "Marginnote" (215 : Nat) ({ cls := "Marginnote$Site", name := "take", desc := "(II)V" } : Jvm.MethodName)) ∈ GW := GW_3 0 (List.mem_of_getElem? (i := 27) rfl) rfl
theorem mw508 : (Jvm.Cond.instanceMethod ({ cls := "Marginnote$Site", name := "take", desc := "(II)V" } : Jvm.MethodName)) ∈ GW := GW_3 0 (List.mem_of_getElem? (i := 28) rfl) rfl
theorem mw509 : (Jvm.Cond.selects "Marginnote$Site" ({ cls := "Marginnote$Site", name := "take", desc := "(II)V" } : Jvm.MethodName) ({ cls := "Marginnote$Site", name := "take", desc := "(II)V" } : Jvm.MethodName)) ∈ GW := GW_3 0 (List.mem_of_getElem? (i := 29) rfl) rfl
theorem mw510 : (Jvm.Cond.code ({ cls := "Marginnote$Site", name := "take", desc := "(II)V" } : Jvm.MethodName) prog_6_method_2_code (3 : Nat) (Option.none : Option Jvm.ClassFile.FieldType)) ∈ GW := GW_3 0 (List.mem_of_getElem? (i := 30) rfl) rfl
theorem mw511 : (Jvm.Cond.methodLink "Marginnote$Site" (48 : Nat) ({ cls := "Marginnote$ActSet", name := "contains", desc := "(I)Z" } : Jvm.MethodName)) ∈ GW := GW_3 0 (List.mem_of_getElem? (i := 31) rfl) rfl
theorem mw512 : (Jvm.Cond.methodLink "Marginnote$Site" (55 : Nat) ({ cls := "Marginnote$ActSet", name := "add", desc := "(I)V" } : Jvm.MethodName)) ∈ GW := GW_3 0 (List.mem_of_getElem? (i := 32) rfl) rfl
theorem mw513 : (Jvm.Cond.instanceMethod ({ cls := "Marginnote$ActSet", name := "add", desc := "(I)V" } : Jvm.MethodName)) ∈ GW := GW_3 0 (List.mem_of_getElem? (i := 33) rfl) rfl
theorem mw514 : (Jvm.Cond.selects "Marginnote$ActSet" ({ cls := "Marginnote$ActSet", name := "add", desc := "(I)V" } : Jvm.MethodName) ({ cls := "Marginnote$ActSet", name := "add", desc := "(I)V" } : Jvm.MethodName)) ∈ GW := GW_3 0 (List.mem_of_getElem? (i := 34) rfl) rfl
theorem mw515 : (Jvm.Cond.code ({ cls := "Marginnote$ActSet", name := "add", desc := "(I)V" } : Jvm.MethodName) prog_2_method_3_code (2 : Nat) (Option.none : Option Jvm.ClassFile.FieldType)) ∈ GW := GW_3 0 (List.mem_of_getElem? (i := 35) rfl) rfl
theorem mw516 : (Jvm.Cond.methodLink "Marginnote$Site" (62 : Nat) ({ cls := "java/lang/Math", name := "max", desc := "(II)I" } : Jvm.MethodName)) ∈ GW := GW_3 0 (List.mem_of_getElem? (i := 36) rfl) rfl
theorem mw517 : (Jvm.Cond.static ({ cls := "java/lang/Math", name := "max", desc := "(II)I" } : Jvm.MethodName)) ∈ GW := GW_3 0 (List.mem_of_getElem? (i := 37) rfl) rfl
theorem mw518 : (Jvm.Cond.code ({ cls := "java/lang/Math", name := "max", desc := "(II)I" } : Jvm.MethodName) prog_14_method_65_code (2 : Nat) (Option.some Jvm.ClassFile.FieldType.int)) ∈ GW := GW_3 0 (List.mem_of_getElem? (i := 38) rfl) rfl
theorem mw519 : (Jvm.Cond.methodLink "Marginnote" (369 : Nat) ({ cls := "Marginnote$Paper", name := "perform", desc := "(I)V" } : Jvm.MethodName)) ∈ GW := GW_3 0 (List.mem_of_getElem? (i := 39) rfl) rfl
theorem mw520 : (Jvm.Cond.methodLink "MarginnoteLaw" (164 : Nat) ({ cls := "MarginnoteLaw", name := "split", desc := "(LMarginnote;I[J)I" } : Jvm.MethodName)) ∈ GW := GW_3 0 (List.mem_of_getElem? (i := 40) rfl) rfl
theorem mw521 : (Jvm.Cond.static ({ cls := "MarginnoteLaw", name := "split", desc := "(LMarginnote;I[J)I" } : Jvm.MethodName)) ∈ GW := GW_3 0 (List.mem_of_getElem? (i := 41) rfl) rfl
theorem mw522 : (Jvm.Cond.codeWith ({ cls := "MarginnoteLaw", name := "split", desc := "(LMarginnote;I[J)I" } : Jvm.MethodName) method_4_code (4 : Nat) (Option.some Jvm.ClassFile.FieldType.int) [((0 : Nat), (9 : Nat), (12 : Nat), (13 : Nat)), ((0 : Nat), (9 : Nat), (15 : Nat), (17 : Nat))]) ∈ GW := GW_3 0 (List.mem_of_getElem? (i := 42) rfl) rfl
theorem mw523 : (Jvm.Cond.methodLink "MarginnoteLaw" (19 : Nat) ({ cls := "Marginnote", name := "split", desc := "(I)I" } : Jvm.MethodName)) ∈ GW := GW_3 0 (List.mem_of_getElem? (i := 43) rfl) rfl
theorem mw524 : (Jvm.Cond.instanceMethod ({ cls := "Marginnote", name := "split", desc := "(I)I" } : Jvm.MethodName)) ∈ GW := GW_3 0 (List.mem_of_getElem? (i := 44) rfl) rfl
theorem mw525 : (Jvm.Cond.selects "Marginnote" ({ cls := "Marginnote", name := "split", desc := "(I)I" } : Jvm.MethodName) ({ cls := "Marginnote", name := "split", desc := "(I)I" } : Jvm.MethodName)) ∈ GW := GW_3 0 (List.mem_of_getElem? (i := 45) rfl) rfl
theorem mw526 : (Jvm.Cond.code ({ cls := "Marginnote", name := "split", desc := "(I)I" } : Jvm.MethodName) prog_1_method_3_code (3 : Nat) (Option.some Jvm.ClassFile.FieldType.int)) ∈ GW := GW_3 0 (List.mem_of_getElem? (i := 46) rfl) rfl
theorem mw527 : (Jvm.Cond.methodLink "MarginnoteLaw" (168 : Nat) ({ cls := "MarginnoteLaw", name := "erase", desc := "(LMarginnote;I[J)I" } : Jvm.MethodName)) ∈ GW := GW_3 0 (List.mem_of_getElem? (i := 47) rfl) rfl
theorem mw528 : (Jvm.Cond.static ({ cls := "MarginnoteLaw", name := "erase", desc := "(LMarginnote;I[J)I" } : Jvm.MethodName)) ∈ GW := GW_3 0 (List.mem_of_getElem? (i := 48) rfl) rfl
theorem mw529 : (Jvm.Cond.codeWith ({ cls := "MarginnoteLaw", name := "erase", desc := "(LMarginnote;I[J)I" } : Jvm.MethodName) method_5_code (4 : Nat) (Option.some Jvm.ClassFile.FieldType.int) [((0 : Nat), (9 : Nat), (12 : Nat), (13 : Nat)), ((0 : Nat), (9 : Nat), (15 : Nat), (17 : Nat))]) ∈ GW := GW_3 0 (List.mem_of_getElem? (i := 49) rfl) rfl
theorem mw530 : (Jvm.Cond.methodLink "MarginnoteLaw" (23 : Nat) ({ cls := "Marginnote", name := "erase", desc := "(I)I" } : Jvm.MethodName)) ∈ GW := GW_3 0 (List.mem_of_getElem? (i := 50) rfl) rfl
theorem mw531 : (Jvm.Cond.instanceMethod ({ cls := "Marginnote", name := "erase", desc := "(I)I" } : Jvm.MethodName)) ∈ GW := GW_3 0 (List.mem_of_getElem? (i := 51) rfl) rfl
theorem mw532 : (Jvm.Cond.selects "Marginnote" ({ cls := "Marginnote", name := "erase", desc := "(I)I" } : Jvm.MethodName) ({ cls := "Marginnote", name := "erase", desc := "(I)I" } : Jvm.MethodName)) ∈ GW := GW_3 0 (List.mem_of_getElem? (i := 52) rfl) rfl
theorem mw533 : (Jvm.Cond.code ({ cls := "Marginnote", name := "erase", desc := "(I)I" } : Jvm.MethodName) prog_1_method_4_code (10 : Nat) (Option.some Jvm.ClassFile.FieldType.int)) ∈ GW := GW_3 0 (List.mem_of_getElem? (i := 53) rfl) rfl
theorem mw534 : (Jvm.Cond.methodLink "Marginnote" (84 : Nat) ({ cls := "Marginnote$Paper", name := "seenThrough", desc := "(I)I" } : Jvm.MethodName)) ∈ GW := GW_3 0 (List.mem_of_getElem? (i := 54) rfl) rfl
theorem mw535 : (Jvm.Cond.instanceMethod ({ cls := "Marginnote$Paper", name := "seenThrough", desc := "(I)I" } : Jvm.MethodName)) ∈ GW := GW_3 0 (List.mem_of_getElem? (i := 55) rfl) rfl
theorem mw536 : (Jvm.Cond.selects "Marginnote$Paper" ({ cls := "Marginnote$Paper", name := "seenThrough", desc := "(I)I" } : Jvm.MethodName) ({ cls := "Marginnote$Paper", name := "seenThrough", desc := "(I)I" } : Jvm.MethodName)) ∈ GW := GW_3 0 (List.mem_of_getElem? (i := 56) rfl) rfl
theorem mw537 : (Jvm.Cond.code ({ cls := "Marginnote$Paper", name := "seenThrough", desc := "(I)I" } : Jvm.MethodName) prog_5_method_31_code (4 : Nat) (Option.some Jvm.ClassFile.FieldType.int)) ∈ GW := GW_3 0 (List.mem_of_getElem? (i := 57) rfl) rfl
theorem mw538 : (Jvm.Cond.methodLink "Marginnote" (91 : Nat) ({ cls := "java/lang/Math", name := "min", desc := "(II)I" } : Jvm.MethodName)) ∈ GW := GW_3 0 (List.mem_of_getElem? (i := 58) rfl) rfl
theorem mw539 : (Jvm.Cond.static ({ cls := "java/lang/Math", name := "min", desc := "(II)I" } : Jvm.MethodName)) ∈ GW := GW_3 0 (List.mem_of_getElem? (i := 59) rfl) rfl
theorem mw540 : (Jvm.Cond.code ({ cls := "java/lang/Math", name := "min", desc := "(II)I" } : Jvm.MethodName) prog_14_method_69_code (2 : Nat) (Option.some Jvm.ClassFile.FieldType.int)) ∈ GW := GW_3 0 (List.mem_of_getElem? (i := 60) rfl) rfl
theorem mw541 : (Jvm.Cond.methodLink "Marginnote" (97 : Nat) ({ cls := "java/lang/Math", name := "max", desc := "(II)I" } : Jvm.MethodName)) ∈ GW := GW_3 0 (List.mem_of_getElem? (i := 61) rfl) rfl
theorem mw543 : (Jvm.Cond.methodLink "Marginnote" (109 : Nat) ({ cls := "Marginnote$Paper", name := "pickSeen", desc := "(II[I)I" } : Jvm.MethodName)) ∈ GW := GW_3 0 (List.mem_of_getElem? (i := 63) rfl) rfl
theorem mw544 : (Jvm.Cond.instanceMethod ({ cls := "Marginnote$Paper", name := "pickSeen", desc := "(II[I)I" } : Jvm.MethodName)) ∈ GW := GW_3 0 (List.mem_of_getElem? (i := 64) rfl) rfl
theorem mw545 : (Jvm.Cond.selects "Marginnote$Paper" ({ cls := "Marginnote$Paper", name := "pickSeen", desc := "(II[I)I" } : Jvm.MethodName) ({ cls := "Marginnote$Paper", name := "pickSeen", desc := "(II[I)I" } : Jvm.MethodName)) ∈ GW := GW_3 0 (List.mem_of_getElem? (i := 65) rfl) rfl
theorem mw546 : (Jvm.Cond.code ({ cls := "Marginnote$Paper", name := "pickSeen", desc := "(II[I)I" } : Jvm.MethodName) prog_5_method_32_code (7 : Nat) (Option.some Jvm.ClassFile.FieldType.int)) ∈ GW := GW_3 0 (List.mem_of_getElem? (i := 66) rfl) rfl
theorem mw547 : (Jvm.Cond.methodLink "MarginnoteLaw" (171 : Nat) ({ cls := "MarginnoteLaw", name := "moveTo", desc := "(LMarginnote;II[J)I" } : Jvm.MethodName)) ∈ GW := GW_3 0 (List.mem_of_getElem? (i := 67) rfl) rfl
theorem mw548 : (Jvm.Cond.static ({ cls := "MarginnoteLaw", name := "moveTo", desc := "(LMarginnote;II[J)I" } : Jvm.MethodName)) ∈ GW := GW_3 0 (List.mem_of_getElem? (i := 68) rfl) rfl
theorem mw549 : (Jvm.Cond.codeWith ({ cls := "MarginnoteLaw", name := "moveTo", desc := "(LMarginnote;II[J)I" } : Jvm.MethodName) method_6_code (5 : Nat) (Option.some Jvm.ClassFile.FieldType.int) [((0 : Nat), (10 : Nat), (13 : Nat), (13 : Nat))]) ∈ GW := GW_3 0 (List.mem_of_getElem? (i := 69) rfl) rfl
theorem mw550 : (Jvm.Cond.methodLink "MarginnoteLaw" (26 : Nat) ({ cls := "Marginnote", name := "moveTo", desc := "(II)I" } : Jvm.MethodName)) ∈ GW := GW_3 0 (List.mem_of_getElem? (i := 70) rfl) rfl
theorem mw551 : (Jvm.Cond.instanceMethod ({ cls := "Marginnote", name := "moveTo", desc := "(II)I" } : Jvm.MethodName)) ∈ GW := GW_3 0 (List.mem_of_getElem? (i := 71) rfl) rfl
theorem mw552 : (Jvm.Cond.selects "Marginnote" ({ cls := "Marginnote", name := "moveTo", desc := "(II)I" } : Jvm.MethodName) ({ cls := "Marginnote", name := "moveTo", desc := "(II)I" } : Jvm.MethodName)) ∈ GW := GW_3 0 (List.mem_of_getElem? (i := 72) rfl) rfl
theorem mw553 : (Jvm.Cond.code ({ cls := "Marginnote", name := "moveTo", desc := "(II)I" } : Jvm.MethodName) prog_1_method_5_code (7 : Nat) (Option.some Jvm.ClassFile.FieldType.int)) ∈ GW := GW_3 0 (List.mem_of_getElem? (i := 73) rfl) rfl
theorem mw554 : (Jvm.Cond.methodLink "Marginnote" (121 : Nat) ({ cls := "Marginnote", name := "standAt", desc := "(LMarginnote$Paper;I)I" } : Jvm.MethodName)) ∈ GW := GW_3 0 (List.mem_of_getElem? (i := 74) rfl) rfl
theorem mw555 : (Jvm.Cond.static ({ cls := "Marginnote", name := "standAt", desc := "(LMarginnote$Paper;I)I" } : Jvm.MethodName)) ∈ GW := GW_3 0 (List.mem_of_getElem? (i := 75) rfl) rfl
theorem mw556 : (Jvm.Cond.code ({ cls := "Marginnote", name := "standAt", desc := "(LMarginnote$Paper;I)I" } : Jvm.MethodName) prog_1_method_49_code (2 : Nat) (Option.some Jvm.ClassFile.FieldType.int)) ∈ GW := GW_3 0 (List.mem_of_getElem? (i := 76) rfl) rfl
theorem mw557 : (Jvm.Cond.methodLink "Marginnote" (276 : Nat) ({ cls := "Marginnote", name := "elementAt", desc := "(LMarginnote$Paper;I)I" } : Jvm.MethodName)) ∈ GW := GW_3 0 (List.mem_of_getElem? (i := 77) rfl) rfl
theorem mw558 : (Jvm.Cond.static ({ cls := "Marginnote", name := "elementAt", desc := "(LMarginnote$Paper;I)I" } : Jvm.MethodName)) ∈ GW := GW_3 0 (List.mem_of_getElem? (i := 78) rfl) rfl
theorem mw559 : (Jvm.Cond.code ({ cls := "Marginnote", name := "elementAt", desc := "(LMarginnote$Paper;I)I" } : Jvm.MethodName) prog_1_method_48_code (3 : Nat) (Option.some Jvm.ClassFile.FieldType.int)) ∈ GW := GW_3 0 (List.mem_of_getElem? (i := 79) rfl) rfl
theorem mw560 : (Jvm.Cond.methodLink "Marginnote" (334 : Nat) ({ cls := "Marginnote$Paper", name := "seenAt", desc := "(I)I" } : Jvm.MethodName)) ∈ GW := GW_3 0 (List.mem_of_getElem? (i := 80) rfl) rfl
theorem mw561 : (Jvm.Cond.instanceMethod ({ cls := "Marginnote$Paper", name := "seenAt", desc := "(I)I" } : Jvm.MethodName)) ∈ GW := GW_3 0 (List.mem_of_getElem? (i := 81) rfl) rfl
theorem mw562 : (Jvm.Cond.selects "Marginnote$Paper" ({ cls := "Marginnote$Paper", name := "seenAt", desc := "(I)I" } : Jvm.MethodName) ({ cls := "Marginnote$Paper", name := "seenAt", desc := "(I)I" } : Jvm.MethodName)) ∈ GW := GW_3 0 (List.mem_of_getElem? (i := 82) rfl) rfl
theorem mw563 : (Jvm.Cond.code ({ cls := "Marginnote$Paper", name := "seenAt", desc := "(I)I" } : Jvm.MethodName) prog_5_method_30_code (4 : Nat) (Option.some Jvm.ClassFile.FieldType.int)) ∈ GW := GW_3 0 (List.mem_of_getElem? (i := 83) rfl) rfl
theorem mw565 : (Jvm.Cond.methodLink "MarginnoteLaw" (175 : Nat) ({ cls := "MarginnoteLaw", name := "extend", desc := "(LMarginnote;II[J)I" } : Jvm.MethodName)) ∈ GW := GW_3 0 (List.mem_of_getElem? (i := 85) rfl) rfl
theorem mw566 : (Jvm.Cond.static ({ cls := "MarginnoteLaw", name := "extend", desc := "(LMarginnote;II[J)I" } : Jvm.MethodName)) ∈ GW := GW_3 0 (List.mem_of_getElem? (i := 86) rfl) rfl
theorem mw567 : (Jvm.Cond.codeWith ({ cls := "MarginnoteLaw", name := "extend", desc := "(LMarginnote;II[J)I" } : Jvm.MethodName) method_7_code (5 : Nat) (Option.some Jvm.ClassFile.FieldType.int) [((0 : Nat), (10 : Nat), (13 : Nat), (13 : Nat))]) ∈ GW := GW_3 0 (List.mem_of_getElem? (i := 87) rfl) rfl
theorem mw568 : (Jvm.Cond.methodLink "MarginnoteLaw" (30 : Nat) ({ cls := "Marginnote", name := "extend", desc := "(II)I" } : Jvm.MethodName)) ∈ GW := GW_3 0 (List.mem_of_getElem? (i := 88) rfl) rfl
theorem mw569 : (Jvm.Cond.instanceMethod ({ cls := "Marginnote", name := "extend", desc := "(II)I" } : Jvm.MethodName)) ∈ GW := GW_3 0 (List.mem_of_getElem? (i := 89) rfl) rfl
theorem mw570 : (Jvm.Cond.selects "Marginnote" ({ cls := "Marginnote", name := "extend", desc := "(II)I" } : Jvm.MethodName) ({ cls := "Marginnote", name := "extend", desc := "(II)I" } : Jvm.MethodName)) ∈ GW := GW_3 0 (List.mem_of_getElem? (i := 90) rfl) rfl
theorem mw571 : (Jvm.Cond.code ({ cls := "Marginnote", name := "extend", desc := "(II)I" } : Jvm.MethodName) prog_1_method_6_code (6 : Nat) (Option.some Jvm.ClassFile.FieldType.int)) ∈ GW := GW_3 0 (List.mem_of_getElem? (i := 91) rfl) rfl
theorem mw572 : (Jvm.Cond.methodLink "MarginnoteLaw" (178 : Nat) ({ cls := "MarginnoteLaw", name := "mark", desc := "(LMarginnote;IIZ[J)I" } : Jvm.MethodName)) ∈ GW := GW_3 0 (List.mem_of_getElem? (i := 92) rfl) rfl
theorem mw573 : (Jvm.Cond.static ({ cls := "MarginnoteLaw", name := "mark", desc := "(LMarginnote;IIZ[J)I" } : Jvm.MethodName)) ∈ GW := GW_3 0 (List.mem_of_getElem? (i := 93) rfl) rfl
theorem mw574 : (Jvm.Cond.codeWith ({ cls := "MarginnoteLaw", name := "mark", desc := "(LMarginnote;IIZ[J)I" } : Jvm.MethodName) method_8_code (6 : Nat) (Option.some Jvm.ClassFile.FieldType.int) [((0 : Nat), (12 : Nat), (15 : Nat), (13 : Nat)), ((0 : Nat), (12 : Nat), (19 : Nat), (15 : Nat)), ((0 : Nat), (12 : Nat), (23 : Nat), (17 : Nat))]) ∈ GW := GW_3 0 (List.mem_of_getElem? (i := 94) rfl) rfl
theorem mw575 : (Jvm.Cond.methodLink "MarginnoteLaw" (33 : Nat) ({ cls := "Marginnote", name := "mark", desc := "(IIZ)I" } : Jvm.MethodName)) ∈ GW := GW_3 0 (List.mem_of_getElem? (i := 95) rfl) rfl
theorem mw576 : (Jvm.Cond.instanceMethod ({ cls := "Marginnote", name := "mark", desc := "(IIZ)I" } : Jvm.MethodName)) ∈ GW := GW_3 0 (List.mem_of_getElem? (i := 96) rfl) rfl
theorem mw577 : (Jvm.Cond.selects "Marginnote" ({ cls := "Marginnote", name := "mark", desc := "(IIZ)I" } : Jvm.MethodName) ({ cls := "Marginnote", name := "mark", desc := "(IIZ)I" } : Jvm.MethodName)) ∈ GW := GW_3 0 (List.mem_of_getElem? (i := 97) rfl) rfl
theorem mw578 : (Jvm.Cond.code ({ cls := "Marginnote", name := "mark", desc := "(IIZ)I" } : Jvm.MethodName) prog_1_method_7_code (5 : Nat) (Option.some Jvm.ClassFile.FieldType.int)) ∈ GW := GW_3 0 (List.mem_of_getElem? (i := 98) rfl) rfl
theorem mw579 : (Jvm.Cond.methodLink "Marginnote" (125 : Nat) ({ cls := "Marginnote", name := "checkMark", desc := "(I)V" } : Jvm.MethodName)) ∈ GW := GW_3 0 (List.mem_of_getElem? (i := 99) rfl) rfl
theorem mw580 : (Jvm.Cond.static ({ cls := "Marginnote", name := "checkMark", desc := "(I)V" } : Jvm.MethodName)) ∈ GW := GW_3 0 (List.mem_of_getElem? (i := 100) rfl) rfl
theorem mw581 : (Jvm.Cond.code ({ cls := "Marginnote", name := "checkMark", desc := "(I)V" } : Jvm.MethodName) prog_1_method_52_code (1 : Nat) (Option.none : Option Jvm.ClassFile.FieldType)) ∈ GW := GW_3 0 (List.mem_of_getElem? (i := 101) rfl) rfl
theorem mw583 : (Jvm.Cond.methodLink "Marginnote" (128 : Nat) ({ cls := "Marginnote", name := "writeOnSelection", desc := "(LMarginnote$Site;LMarginnote$Paper;IIZ)I" } : Jvm.MethodName)) ∈ GW := GW_3 0 (List.mem_of_getElem? (i := 103) rfl) rfl
theorem mw585 : (Jvm.Cond.instanceMethod ({ cls := "Marginnote", name := "writeOnSelection", desc := "(LMarginnote$Site;LMarginnote$Paper;IIZ)I" } : Jvm.MethodName)) ∈ GW := GW_3 0 (List.mem_of_getElem? (i := 105) rfl) rfl
theorem mw586 : (Jvm.Cond.code ({ cls := "Marginnote", name := "writeOnSelection", desc := "(LMarginnote$Site;LMarginnote$Paper;IIZ)I" } : Jvm.MethodName) prog_1_method_58_code (10 : Nat) (Option.some Jvm.ClassFile.FieldType.int)) ∈ GW := GW_3 0 (List.mem_of_getElem? (i := 106) rfl) rfl
theorem mw588 : (Jvm.Cond.methodLink "MarginnoteLaw" (182 : Nat) ({ cls := "MarginnoteLaw", name := "comment", desc := "(LMarginnote;I[J)I" } : Jvm.MethodName)) ∈ GW := GW_3 0 (List.mem_of_getElem? (i := 108) rfl) rfl
theorem mw589 : (Jvm.Cond.static ({ cls := "MarginnoteLaw", name := "comment", desc := "(LMarginnote;I[J)I" } : Jvm.MethodName)) ∈ GW := GW_3 0 (List.mem_of_getElem? (i := 109) rfl) rfl
theorem mw590 : (Jvm.Cond.codeWith ({ cls := "MarginnoteLaw", name := "comment", desc := "(LMarginnote;I[J)I" } : Jvm.MethodName) method_9_code (4 : Nat) (Option.some Jvm.ClassFile.FieldType.int) [((0 : Nat), (9 : Nat), (12 : Nat), (13 : Nat)), ((0 : Nat), (9 : Nat), (15 : Nat), (17 : Nat))]) ∈ GW := GW_3 0 (List.mem_of_getElem? (i := 110) rfl) rfl
theorem mw591 : (Jvm.Cond.methodLink "MarginnoteLaw" (37 : Nat) ({ cls := "Marginnote", name := "comment", desc := "(I)I" } : Jvm.MethodName)) ∈ GW := GW_3 0 (List.mem_of_getElem? (i := 111) rfl) rfl
theorem mw592 : (Jvm.Cond.instanceMethod ({ cls := "Marginnote", name := "comment", desc := "(I)I" } : Jvm.MethodName)) ∈ GW := GW_3 0 (List.mem_of_getElem? (i := 112) rfl) rfl
theorem mw593 : (Jvm.Cond.selects "Marginnote" ({ cls := "Marginnote", name := "comment", desc := "(I)I" } : Jvm.MethodName) ({ cls := "Marginnote", name := "comment", desc := "(I)I" } : Jvm.MethodName)) ∈ GW := GW_3 0 (List.mem_of_getElem? (i := 113) rfl) rfl
theorem mw594 : (Jvm.Cond.code ({ cls := "Marginnote", name := "comment", desc := "(I)I" } : Jvm.MethodName) prog_1_method_8_code (3 : Nat) (Option.some Jvm.ClassFile.FieldType.int)) ∈ GW := GW_3 0 (List.mem_of_getElem? (i := 114) rfl) rfl
theorem mw596 : (Jvm.Cond.methodLink "MarginnoteLaw" (185 : Nat) ({ cls := "MarginnoteLaw", name := "setKind", desc := "(LMarginnote;III[J)I" } : Jvm.MethodName)) ∈ GW := GW_3 0 (List.mem_of_getElem? (i := 116) rfl) rfl
theorem mw597 : (Jvm.Cond.static ({ cls := "MarginnoteLaw", name := "setKind", desc := "(LMarginnote;III[J)I" } : Jvm.MethodName)) ∈ GW := GW_3 0 (List.mem_of_getElem? (i := 117) rfl) rfl
theorem mw598 : (Jvm.Cond.codeWith ({ cls := "MarginnoteLaw", name := "setKind", desc := "(LMarginnote;III[J)I" } : Jvm.MethodName) method_10_code (6 : Nat) (Option.some Jvm.ClassFile.FieldType.int) [((0 : Nat), (12 : Nat), (15 : Nat), (13 : Nat)), ((0 : Nat), (12 : Nat), (19 : Nat), (15 : Nat)), ((0 : Nat), (12 : Nat), (23 : Nat), (17 : Nat))]) ∈ GW := GW_3 0 (List.mem_of_getElem? (i := 118) rfl) rfl
theorem mw599 : (Jvm.Cond.methodLink "MarginnoteLaw" (40 : Nat) ({ cls := "Marginnote", name := "setKind", desc := "(III)I" } : Jvm.MethodName)) ∈ GW := GW_3 0 (List.mem_of_getElem? (i := 119) rfl) rfl
theorem mw600 : (Jvm.Cond.instanceMethod ({ cls := "Marginnote", name := "setKind", desc := "(III)I" } : Jvm.MethodName)) ∈ GW := GW_3 0 (List.mem_of_getElem? (i := 120) rfl) rfl
theorem mw601 : (Jvm.Cond.selects "Marginnote" ({ cls := "Marginnote", name := "setKind", desc := "(III)I" } : Jvm.MethodName) ({ cls := "Marginnote", name := "setKind", desc := "(III)I" } : Jvm.MethodName)) ∈ GW := GW_3 0 (List.mem_of_getElem? (i := 121) rfl) rfl
theorem mw602 : (Jvm.Cond.code ({ cls := "Marginnote", name := "setKind", desc := "(III)I" } : Jvm.MethodName) prog_1_method_9_code (7 : Nat) (Option.some Jvm.ClassFile.FieldType.int)) ∈ GW := GW_3 0 (List.mem_of_getElem? (i := 122) rfl) rfl
theorem mw603 : (Jvm.Cond.methodLink "Marginnote" (137 : Nat) ({ cls := "Marginnote", name := "blockAt", desc := "(LMarginnote$Paper;I)I" } : Jvm.MethodName)) ∈ GW := GW_3 0 (List.mem_of_getElem? (i := 123) rfl) rfl
theorem mw604 : (Jvm.Cond.static ({ cls := "Marginnote", name := "blockAt", desc := "(LMarginnote$Paper;I)I" } : Jvm.MethodName)) ∈ GW := GW_3 0 (List.mem_of_getElem? (i := 124) rfl) rfl
theorem mw605 : (Jvm.Cond.code ({ cls := "Marginnote", name := "blockAt", desc := "(LMarginnote$Paper;I)I" } : Jvm.MethodName) prog_1_method_50_code (3 : Nat) (Option.some Jvm.ClassFile.FieldType.int)) ∈ GW := GW_3 0 (List.mem_of_getElem? (i := 125) rfl) rfl
theorem mw606 : (Jvm.Cond.methodLink "Marginnote" (339 : Nat) ({ cls := "Marginnote$Paper", name := "shownBlock", desc := "(I)I" } : Jvm.MethodName)) ∈ GW := GW_3 0 (List.mem_of_getElem? (i := 126) rfl) rfl
theorem mw607 : (Jvm.Cond.instanceMethod ({ cls := "Marginnote$Paper", name := "shownBlock", desc := "(I)I" } : Jvm.MethodName)) ∈ GW := GW_3 0 (List.mem_of_getElem? (i := 127) rfl) rfl
theorem mw608 : (Jvm.Cond.selects "Marginnote$Paper" ({ cls := "Marginnote$Paper", name := "shownBlock", desc := "(I)I" } : Jvm.MethodName) ({ cls := "Marginnote$Paper", name := "shownBlock", desc := "(I)I" } : Jvm.MethodName)) ∈ GW := GW_3 0 (List.mem_of_getElem? (i := 128) rfl) rfl
theorem mw609 : (Jvm.Cond.code ({ cls := "Marginnote$Paper", name := "shownBlock", desc := "(I)I" } : Jvm.MethodName) prog_5_method_42_code (4 : Nat) (Option.some Jvm.ClassFile.FieldType.int)) ∈ GW := GW_3 0 (List.mem_of_getElem? (i := 129) rfl) rfl
theorem mw612 : (Jvm.Cond.methodLink "Marginnote" (142 : Nat) ({ cls := "Marginnote", name := "checkMayWriteIn", desc := "(LMarginnote$Paper;LMarginnote$Site;I)V" } : Jvm.MethodName)) ∈ GW := GW_3 0 (List.mem_of_getElem? (i := 132) rfl) rfl
theorem mw614 : (Jvm.Cond.instanceMethod ({ cls := "Marginnote", name := "checkMayWriteIn", desc := "(LMarginnote$Paper;LMarginnote$Site;I)V" } : Jvm.MethodName)) ∈ GW := GW_3 0 (List.mem_of_getElem? (i := 134) rfl) rfl
theorem mw615 : (Jvm.Cond.code ({ cls := "Marginnote", name := "checkMayWriteIn", desc := "(LMarginnote$Paper;LMarginnote$Site;I)V" } : Jvm.MethodName) prog_1_method_54_code (4 : Nat) (Option.none : Option Jvm.ClassFile.FieldType)) ∈ GW := GW_3 0 (List.mem_of_getElem? (i := 135) rfl) rfl
theorem mw617 : (Jvm.Cond.methodLink "MarginnoteLaw" (189 : Nat) ({ cls := "MarginnoteLaw", name := "nest", desc := "(LMarginnote;III[J)I" } : Jvm.MethodName)) ∈ GW := GW_3 0 (List.mem_of_getElem? (i := 137) rfl) rfl
theorem mw618 : (Jvm.Cond.static ({ cls := "MarginnoteLaw", name := "nest", desc := "(LMarginnote;III[J)I" } : Jvm.MethodName)) ∈ GW := GW_3 0 (List.mem_of_getElem? (i := 138) rfl) rfl
theorem mw619 : (Jvm.Cond.codeWith ({ cls := "MarginnoteLaw", name := "nest", desc := "(LMarginnote;III[J)I" } : Jvm.MethodName) method_11_code (6 : Nat) (Option.some Jvm.ClassFile.FieldType.int) [((0 : Nat), (12 : Nat), (15 : Nat), (13 : Nat)), ((0 : Nat), (12 : Nat), (19 : Nat), (17 : Nat))]) ∈ GW := GW_3 0 (List.mem_of_getElem? (i := 139) rfl) rfl
theorem mw620 : (Jvm.Cond.methodLink "MarginnoteLaw" (44 : Nat) ({ cls := "Marginnote", name := "nest", desc := "(III)I" } : Jvm.MethodName)) ∈ GW := GW_3 0 (List.mem_of_getElem? (i := 140) rfl) rfl
theorem mw621 : (Jvm.Cond.instanceMethod ({ cls := "Marginnote", name := "nest", desc := "(III)I" } : Jvm.MethodName)) ∈ GW := GW_3 0 (List.mem_of_getElem? (i := 141) rfl) rfl
theorem mw622 : (Jvm.Cond.selects "Marginnote" ({ cls := "Marginnote", name := "nest", desc := "(III)I" } : Jvm.MethodName) ({ cls := "Marginnote", name := "nest", desc := "(III)I" } : Jvm.MethodName)) ∈ GW := GW_3 0 (List.mem_of_getElem? (i := 142) rfl) rfl
theorem mw623 : (Jvm.Cond.code ({ cls := "Marginnote", name := "nest", desc := "(III)I" } : Jvm.MethodName) prog_1_method_10_code (8 : Nat) (Option.some Jvm.ClassFile.FieldType.int)) ∈ GW := GW_3 0 (List.mem_of_getElem? (i := 143) rfl) rfl
theorem mw624 : (Jvm.Cond.methodLink "MarginnoteLaw" (192 : Nat) ({ cls := "MarginnoteLaw", name := "propose", desc := "(LMarginnote;IZ[J)I" } : Jvm.MethodName)) ∈ GW := GW_3 0 (List.mem_of_getElem? (i := 144) rfl) rfl
theorem mw625 : (Jvm.Cond.static ({ cls := "MarginnoteLaw", name := "propose", desc := "(LMarginnote;IZ[J)I" } : Jvm.MethodName)) ∈ GW := GW_3 0 (List.mem_of_getElem? (i := 145) rfl) rfl
theorem mw626 : (Jvm.Cond.codeWith ({ cls := "MarginnoteLaw", name := "propose", desc := "(LMarginnote;IZ[J)I" } : Jvm.MethodName) method_12_code (5 : Nat) (Option.some Jvm.ClassFile.FieldType.int) [((0 : Nat), (17 : Nat), (20 : Nat), (13 : Nat))]) ∈ GW := GW_3 0 (List.mem_of_getElem? (i := 146) rfl) rfl
theorem mw627 : (Jvm.Cond.methodLink "MarginnoteLaw" (47 : Nat) ({ cls := "Marginnote", name := "propose", desc := "(IZ)Z" } : Jvm.MethodName)) ∈ GW := GW_3 0 (List.mem_of_getElem? (i := 147) rfl) rfl
theorem mw628 : (Jvm.Cond.instanceMethod ({ cls := "Marginnote", name := "propose", desc := "(IZ)Z" } : Jvm.MethodName)) ∈ GW := GW_3 0 (List.mem_of_getElem? (i := 148) rfl) rfl
theorem mw629 : (Jvm.Cond.selects "Marginnote" ({ cls := "Marginnote", name := "propose", desc := "(IZ)Z" } : Jvm.MethodName) ({ cls := "Marginnote", name := "propose", desc := "(IZ)Z" } : Jvm.MethodName)) ∈ GW := GW_3 0 (List.mem_of_getElem? (i := 149) rfl) rfl
theorem mw630 : (Jvm.Cond.code ({ cls := "Marginnote", name := "propose", desc := "(IZ)Z" } : Jvm.MethodName) prog_1_method_11_code (5 : Nat) (Option.some Jvm.ClassFile.FieldType.boolean)) ∈ GW := GW_3 0 (List.mem_of_getElem? (i := 150) rfl) rfl
theorem mw631 : (Jvm.Cond.methodLink "MarginnoteLaw" (196 : Nat) ({ cls := "MarginnoteLaw", name := "decide", desc := "(LMarginnote;IIZ[J)I" } : Jvm.MethodName)) ∈ GW := GW_3 0 (List.mem_of_getElem? (i := 151) rfl) rfl
theorem mw632 : (Jvm.Cond.static ({ cls := "MarginnoteLaw", name := "decide", desc := "(LMarginnote;IIZ[J)I" } : Jvm.MethodName)) ∈ GW := GW_3 0 (List.mem_of_getElem? (i := 152) rfl) rfl
theorem mw633 : (Jvm.Cond.codeWith ({ cls := "MarginnoteLaw", name := "decide", desc := "(LMarginnote;IIZ[J)I" } : Jvm.MethodName) method_13_code (6 : Nat) (Option.some Jvm.ClassFile.FieldType.int) [((0 : Nat), (12 : Nat), (15 : Nat), (13 : Nat)), ((0 : Nat), (12 : Nat), (19 : Nat), (17 : Nat))]) ∈ GW := GW_3 0 (List.mem_of_getElem? (i := 153) rfl) rfl
theorem mw634 : (Jvm.Cond.methodLink "MarginnoteLaw" (51 : Nat) ({ cls := "Marginnote", name := "decide", desc := "(IIZ)I" } : Jvm.MethodName)) ∈ GW := GW_3 0 (List.mem_of_getElem? (i := 154) rfl) rfl
theorem mw635 : (Jvm.Cond.instanceMethod ({ cls := "Marginnote", name := "decide", desc := "(IIZ)I" } : Jvm.MethodName)) ∈ GW := GW_3 0 (List.mem_of_getElem? (i := 155) rfl) rfl
theorem mw636 : (Jvm.Cond.selects "Marginnote" ({ cls := "Marginnote", name := "decide", desc := "(IIZ)I" } : Jvm.MethodName) ({ cls := "Marginnote", name := "decide", desc := "(IIZ)I" } : Jvm.MethodName)) ∈ GW := GW_3 0 (List.mem_of_getElem? (i := 156) rfl) rfl
theorem mw637 : (Jvm.Cond.code ({ cls := "Marginnote", name := "decide", desc := "(IIZ)I" } : Jvm.MethodName) prog_1_method_12_code (5 : Nat) (Option.some Jvm.ClassFile.FieldType.int)) ∈ GW := GW_3 0 (List.mem_of_getElem? (i := 157) rfl) rfl
theorem mw638 : (Jvm.Cond.methodLink "Marginnote" (146 : Nat) ({ cls := "Marginnote", name := "checkHeld", desc := "(LMarginnote$Site;I)V" } : Jvm.MethodName)) ∈ GW := GW_3 0 (List.mem_of_getElem? (i := 158) rfl) rfl
theorem mw639 : (Jvm.Cond.static ({ cls := "Marginnote", name := "checkHeld", desc := "(LMarginnote$Site;I)V" } : Jvm.MethodName)) ∈ GW := GW_3 0 (List.mem_of_getElem? (i := 159) rfl) rfl
theorem mw640 : (Jvm.Cond.code ({ cls := "Marginnote", name := "checkHeld", desc := "(LMarginnote$Site;I)V" } : Jvm.MethodName) prog_1_method_51_code (2 : Nat) (Option.none : Option Jvm.ClassFile.FieldType)) ∈ GW := GW_3 0 (List.mem_of_getElem? (i := 160) rfl) rfl
theorem mw641 : (Jvm.Cond.methodLink "Marginnote" (208 : Nat) ({ cls := "Marginnote$ActSet", name := "contains", desc := "(I)Z" } : Jvm.MethodName)) ∈ GW := GW_3 0 (List.mem_of_getElem? (i := 161) rfl) rfl
theorem mw643 : (Jvm.Cond.methodLink "Marginnote" (153 : Nat) ({ cls := "Marginnote$Paper", name := "mayDecide", desc := "(II)Z" } : Jvm.MethodName)) ∈ GW := GW_3 0 (List.mem_of_getElem? (i := 163) rfl) rfl
theorem mw644 : (Jvm.Cond.instanceMethod ({ cls := "Marginnote$Paper", name := "mayDecide", desc := "(II)Z" } : Jvm.MethodName)) ∈ GW := GW_3 0 (List.mem_of_getElem? (i := 164) rfl) rfl
theorem mw645 : (Jvm.Cond.selects "Marginnote$Paper" ({ cls := "Marginnote$Paper", name := "mayDecide", desc := "(II)Z" } : Jvm.MethodName) ({ cls := "Marginnote$Paper", name := "mayDecide", desc := "(II)Z" } : Jvm.MethodName)) ∈ GW := GW_3 0 (List.mem_of_getElem? (i := 165) rfl) rfl
theorem mw646 : (Jvm.Cond.code ({ cls := "Marginnote$Paper", name := "mayDecide", desc := "(II)Z" } : Jvm.MethodName) prog_5_method_17_code (3 : Nat) (Option.some Jvm.ClassFile.FieldType.boolean)) ∈ GW := GW_3 0 (List.mem_of_getElem? (i := 166) rfl) rfl
theorem mw648 : (Jvm.Cond.methodLink "MarginnoteLaw" (199 : Nat) ({ cls := "MarginnoteLaw", name := "allow", desc := "(LMarginnote;III[J)I" } : Jvm.MethodName)) ∈ GW := GW_3 0 (List.mem_of_getElem? (i := 168) rfl) rfl
theorem mw649 : (Jvm.Cond.static ({ cls := "MarginnoteLaw", name := "allow", desc := "(LMarginnote;III[J)I" } : Jvm.MethodName)) ∈ GW := GW_3 0 (List.mem_of_getElem? (i := 169) rfl) rfl
theorem mw650 : (Jvm.Cond.codeWith ({ cls := "MarginnoteLaw", name := "allow", desc := "(LMarginnote;III[J)I" } : Jvm.MethodName) method_14_code (6 : Nat) (Option.some Jvm.ClassFile.FieldType.int) [((0 : Nat), (12 : Nat), (15 : Nat), (13 : Nat)), ((0 : Nat), (12 : Nat), (19 : Nat), (15 : Nat)), ((0 : Nat), (12 : Nat), (23 : Nat), (17 : Nat))]) ∈ GW := GW_3 0 (List.mem_of_getElem? (i := 170) rfl) rfl
theorem mw651 : (Jvm.Cond.methodLink "MarginnoteLaw" (54 : Nat) ({ cls := "Marginnote", name := "allow", desc := "(III)I" } : Jvm.MethodName)) ∈ GW := GW_3 0 (List.mem_of_getElem? (i := 171) rfl) rfl
theorem mw652 : (Jvm.Cond.instanceMethod ({ cls := "Marginnote", name := "allow", desc := "(III)I" } : Jvm.MethodName)) ∈ GW := GW_3 0 (List.mem_of_getElem? (i := 172) rfl) rfl
theorem mw653 : (Jvm.Cond.selects "Marginnote" ({ cls := "Marginnote", name := "allow", desc := "(III)I" } : Jvm.MethodName) ({ cls := "Marginnote", name := "allow", desc := "(III)I" } : Jvm.MethodName)) ∈ GW := GW_3 0 (List.mem_of_getElem? (i := 173) rfl) rfl
theorem mw654 : (Jvm.Cond.code ({ cls := "Marginnote", name := "allow", desc := "(III)I" } : Jvm.MethodName) prog_1_method_13_code (6 : Nat) (Option.some Jvm.ClassFile.FieldType.int)) ∈ GW := GW_3 0 (List.mem_of_getElem? (i := 174) rfl) rfl
theorem mw656 : (Jvm.Cond.methodLink "MarginnoteLaw" (202 : Nat) ({ cls := "MarginnoteLaw", name := "undo", desc := "(LMarginnote;I[J)I" } : Jvm.MethodName)) ∈ GW := GW_3 0 (List.mem_of_getElem? (i := 176) rfl) rfl
theorem mw657 : (Jvm.Cond.static ({ cls := "MarginnoteLaw", name := "undo", desc := "(LMarginnote;I[J)I" } : Jvm.MethodName)) ∈ GW := GW_3 0 (List.mem_of_getElem? (i := 177) rfl) rfl
theorem mw658 : (Jvm.Cond.codeWith ({ cls := "MarginnoteLaw", name := "undo", desc := "(LMarginnote;I[J)I" } : Jvm.MethodName) method_15_code (4 : Nat) (Option.some Jvm.ClassFile.FieldType.int) [((0 : Nat), (9 : Nat), (12 : Nat), (13 : Nat)), ((0 : Nat), (9 : Nat), (15 : Nat), (17 : Nat))]) ∈ GW := GW_3 0 (List.mem_of_getElem? (i := 178) rfl) rfl
theorem mw659 : (Jvm.Cond.methodLink "MarginnoteLaw" (57 : Nat) ({ cls := "Marginnote", name := "undo", desc := "(I)I" } : Jvm.MethodName)) ∈ GW := GW_3 0 (List.mem_of_getElem? (i := 179) rfl) rfl
theorem mw660 : (Jvm.Cond.instanceMethod ({ cls := "Marginnote", name := "undo", desc := "(I)I" } : Jvm.MethodName)) ∈ GW := GW_3 0 (List.mem_of_getElem? (i := 180) rfl) rfl
theorem mw661 : (Jvm.Cond.selects "Marginnote" ({ cls := "Marginnote", name := "undo", desc := "(I)I" } : Jvm.MethodName) ({ cls := "Marginnote", name := "undo", desc := "(I)I" } : Jvm.MethodName)) ∈ GW := GW_3 0 (List.mem_of_getElem? (i := 181) rfl) rfl
theorem mw662 : (Jvm.Cond.code ({ cls := "Marginnote", name := "undo", desc := "(I)I" } : Jvm.MethodName) prog_1_method_14_code (4 : Nat) (Option.some Jvm.ClassFile.FieldType.int)) ∈ GW := GW_3 0 (List.mem_of_getElem? (i := 182) rfl) rfl
theorem mw663 : (Jvm.Cond.methodLink "Marginnote" (166 : Nat) ({ cls := "Marginnote", name := "lastNotUndone", desc := "(LMarginnote$Site;LMarginnote$Paper;)I" } : Jvm.MethodName)) ∈ GW := GW_3 0 (List.mem_of_getElem? (i := 183) rfl) rfl
theorem mw665 : (Jvm.Cond.instanceMethod ({ cls := "Marginnote", name := "lastNotUndone", desc := "(LMarginnote$Site;LMarginnote$Paper;)I" } : Jvm.MethodName)) ∈ GW := GW_3 0 (List.mem_of_getElem? (i := 185) rfl) rfl
theorem mw666 : (Jvm.Cond.code ({ cls := "Marginnote", name := "lastNotUndone", desc := "(LMarginnote$Site;LMarginnote$Paper;)I" } : Jvm.MethodName) prog_1_method_60_code (5 : Nat) (Option.some Jvm.ClassFile.FieldType.int)) ∈ GW := GW_3 0 (List.mem_of_getElem? (i := 186) rfl) rfl
theorem mw667 : (Jvm.Cond.methodLink "Marginnote" (202 : Nat) ({ cls := "Marginnote$Book", name := "inOrder", desc := "(I)I" } : Jvm.MethodName)) ∈ GW := GW_3 0 (List.mem_of_getElem? (i := 187) rfl) rfl
theorem mw668 : (Jvm.Cond.methodLink "Marginnote" (372 : Nat) ({ cls := "Marginnote", name := "madeAndHas", desc := "(LMarginnote$Site;I)Z" } : Jvm.MethodName)) ∈ GW := GW_3 0 (List.mem_of_getElem? (i := 188) rfl) rfl
theorem mw670 : (Jvm.Cond.instanceMethod ({ cls := "Marginnote", name := "madeAndHas", desc := "(LMarginnote$Site;I)Z" } : Jvm.MethodName)) ∈ GW := GW_3 0 (List.mem_of_getElem? (i := 190) rfl) rfl
theorem mw671 : (Jvm.Cond.code ({ cls := "Marginnote", name := "madeAndHas", desc := "(LMarginnote$Site;I)Z" } : Jvm.MethodName) prog_1_method_62_code (3 : Nat) (Option.some Jvm.ClassFile.FieldType.boolean)) ∈ GW := GW_3 0 (List.mem_of_getElem? (i := 191) rfl) rfl
theorem mw672 : (Jvm.Cond.methodLink "Marginnote" (324 : Nat) ({ cls := "Marginnote$Book", name := "siteOf", desc := "(I)I" } : Jvm.MethodName)) ∈ GW := GW_3 0 (List.mem_of_getElem? (i := 192) rfl) rfl
theorem mw673 : (Jvm.Cond.methodLink "Marginnote" (376 : Nat) ({ cls := "Marginnote$Book", name := "isUndoable", desc := "(I)Z" } : Jvm.MethodName)) ∈ GW := GW_3 0 (List.mem_of_getElem? (i := 193) rfl) rfl
theorem mw674 : (Jvm.Cond.instanceMethod ({ cls := "Marginnote$Book", name := "isUndoable", desc := "(I)Z" } : Jvm.MethodName)) ∈ GW := GW_3 0 (List.mem_of_getElem? (i := 194) rfl) rfl
theorem mw675 : (Jvm.Cond.selects "Marginnote$Book" ({ cls := "Marginnote$Book", name := "isUndoable", desc := "(I)Z" } : Jvm.MethodName) ({ cls := "Marginnote$Book", name := "isUndoable", desc := "(I)Z" } : Jvm.MethodName)) ∈ GW := GW_3 0 (List.mem_of_getElem? (i := 195) rfl) rfl
theorem mw676 : (Jvm.Cond.code ({ cls := "Marginnote$Book", name := "isUndoable", desc := "(I)Z" } : Jvm.MethodName) prog_3_method_14_code (2 : Nat) (Option.some Jvm.ClassFile.FieldType.boolean)) ∈ GW := GW_3 0 (List.mem_of_getElem? (i := 196) rfl) rfl
theorem mw677 : (Jvm.Cond.methodLink "Marginnote" (327 : Nat) ({ cls := "Marginnote$Paper", name := "wasUndone", desc := "(I)Z" } : Jvm.MethodName)) ∈ GW := GW_3 0 (List.mem_of_getElem? (i := 197) rfl) rfl
theorem mw679 : (Jvm.Cond.methodLink "MarginnoteLaw" (205 : Nat) ({ cls := "MarginnoteLaw", name := "redo", desc := "(LMarginnote;I[J)I" } : Jvm.MethodName)) ∈ GW := GW_3 0 (List.mem_of_getElem? (i := 199) rfl) rfl
theorem mw680 : (Jvm.Cond.static ({ cls := "MarginnoteLaw", name := "redo", desc := "(LMarginnote;I[J)I" } : Jvm.MethodName)) ∈ GW := GW_3 0 (List.mem_of_getElem? (i := 200) rfl) rfl
theorem mw681 : (Jvm.Cond.codeWith ({ cls := "MarginnoteLaw", name := "redo", desc := "(LMarginnote;I[J)I" } : Jvm.MethodName) method_16_code (4 : Nat) (Option.some Jvm.ClassFile.FieldType.int) [((0 : Nat), (9 : Nat), (12 : Nat), (13 : Nat)), ((0 : Nat), (9 : Nat), (15 : Nat), (17 : Nat))]) ∈ GW := GW_3 0 (List.mem_of_getElem? (i := 201) rfl) rfl
theorem mw682 : (Jvm.Cond.methodLink "MarginnoteLaw" (60 : Nat) ({ cls := "Marginnote", name := "redo", desc := "(I)I" } : Jvm.MethodName)) ∈ GW := GW_3 0 (List.mem_of_getElem? (i := 202) rfl) rfl
theorem mw683 : (Jvm.Cond.instanceMethod ({ cls := "Marginnote", name := "redo", desc := "(I)I" } : Jvm.MethodName)) ∈ GW := GW_3 0 (List.mem_of_getElem? (i := 203) rfl) rfl
theorem mw684 : (Jvm.Cond.selects "Marginnote" ({ cls := "Marginnote", name := "redo", desc := "(I)I" } : Jvm.MethodName) ({ cls := "Marginnote", name := "redo", desc := "(I)I" } : Jvm.MethodName)) ∈ GW := GW_3 0 (List.mem_of_getElem? (i := 204) rfl) rfl
theorem mw685 : (Jvm.Cond.code ({ cls := "Marginnote", name := "redo", desc := "(I)I" } : Jvm.MethodName) prog_1_method_15_code (4 : Nat) (Option.some Jvm.ClassFile.FieldType.int)) ∈ GW := GW_3 0 (List.mem_of_getElem? (i := 205) rfl) rfl
theorem mw686 : (Jvm.Cond.methodLink "Marginnote" (172 : Nat) ({ cls := "Marginnote", name := "lastToRedo", desc := "(LMarginnote$Site;LMarginnote$Paper;)I" } : Jvm.MethodName)) ∈ GW := GW_3 0 (List.mem_of_getElem? (i := 206) rfl) rfl
theorem mw688 : (Jvm.Cond.instanceMethod ({ cls := "Marginnote", name := "lastToRedo", desc := "(LMarginnote$Site;LMarginnote$Paper;)I" } : Jvm.MethodName)) ∈ GW := GW_3 0 (List.mem_of_getElem? (i := 208) rfl) rfl
theorem mw689 : (Jvm.Cond.code ({ cls := "Marginnote", name := "lastToRedo", desc := "(LMarginnote$Site;LMarginnote$Paper;)I" } : Jvm.MethodName) prog_1_method_61_code (5 : Nat) (Option.some Jvm.ClassFile.FieldType.int)) ∈ GW := GW_3 0 (List.mem_of_getElem? (i := 209) rfl) rfl
theorem mw690 : (Jvm.Cond.methodLink "Marginnote" (291 : Nat) ({ cls := "Marginnote$Book", name := "kindOf", desc := "(I)I" } : Jvm.MethodName)) ∈ GW := GW_3 0 (List.mem_of_getElem? (i := 210) rfl) rfl
theorem mw691 : (Jvm.Cond.methodLink "Marginnote" (379 : Nat) ({ cls := "Marginnote$Book", name := "firstOf", desc := "(I)I" } : Jvm.MethodName)) ∈ GW := GW_3 0 (List.mem_of_getElem? (i := 211) rfl) rfl
theorem mw693 : (Jvm.Cond.methodLink "MarginnoteLaw" (208 : Nat) ({ cls := "MarginnoteLaw", name := "send", desc := "(LMarginnote;II[J)I" } : Jvm.MethodName)) ∈ GW := GW_3 0 (List.mem_of_getElem? (i := 213) rfl) rfl
theorem mw694 : (Jvm.Cond.static ({ cls := "MarginnoteLaw", name := "send", desc := "(LMarginnote;II[J)I" } : Jvm.MethodName)) ∈ GW := GW_3 0 (List.mem_of_getElem? (i := 214) rfl) rfl
theorem mw695 : (Jvm.Cond.codeWith ({ cls := "MarginnoteLaw", name := "send", desc := "(LMarginnote;II[J)I" } : Jvm.MethodName) method_17_code (5 : Nat) (Option.some Jvm.ClassFile.FieldType.int) [((0 : Nat), (10 : Nat), (13 : Nat), (13 : Nat)), ((0 : Nat), (10 : Nat), (17 : Nat), (15 : Nat)), ((0 : Nat), (10 : Nat), (21 : Nat), (17 : Nat))]) ∈ GW := GW_3 0 (List.mem_of_getElem? (i := 215) rfl) rfl
theorem mw696 : (Jvm.Cond.methodLink "MarginnoteLaw" (63 : Nat) ({ cls := "Marginnote", name := "send", desc := "(II)I" } : Jvm.MethodName)) ∈ GW := GW_3 0 (List.mem_of_getElem? (i := 216) rfl) rfl
theorem mw697 : (Jvm.Cond.instanceMethod ({ cls := "Marginnote", name := "send", desc := "(II)I" } : Jvm.MethodName)) ∈ GW := GW_3 0 (List.mem_of_getElem? (i := 217) rfl) rfl
theorem mw698 : (Jvm.Cond.selects "Marginnote" ({ cls := "Marginnote", name := "send", desc := "(II)I" } : Jvm.MethodName) ({ cls := "Marginnote", name := "send", desc := "(II)I" } : Jvm.MethodName)) ∈ GW := GW_3 0 (List.mem_of_getElem? (i := 218) rfl) rfl
theorem mw699 : (Jvm.Cond.code ({ cls := "Marginnote", name := "send", desc := "(II)I" } : Jvm.MethodName) prog_1_method_16_code (5 : Nat) (Option.some Jvm.ClassFile.FieldType.int)) ∈ GW := GW_3 0 (List.mem_of_getElem? (i := 219) rfl) rfl
theorem mw702 : (Jvm.Cond.instantiable "Marginnote$Message" (3 : Nat)) ∈ GW := GW_3 0 (List.mem_of_getElem? (i := 222) rfl) rfl
theorem mw703 : (Jvm.Cond.methodLink "Marginnote" (184 : Nat) ({ cls := "Marginnote$Message", name := "<init>", desc := "(LMarginnote$Site;I)V" } : Jvm.MethodName)) ∈ GW := GW_3 0 (List.mem_of_getElem? (i := 223) rfl) rfl
theorem mw704 : (Jvm.Cond.instanceMethod ({ cls := "Marginnote$Message", name := "<init>", desc := "(LMarginnote$Site;I)V" } : Jvm.MethodName)) ∈ GW := GW_3 0 (List.mem_of_getElem? (i := 224) rfl) rfl
theorem mw705 : (Jvm.Cond.code ({ cls := "Marginnote$Message", name := "<init>", desc := "(LMarginnote$Site;I)V" } : Jvm.MethodName) prog_4_method_1_code (3 : Nat) (Option.none : Option Jvm.ClassFile.FieldType)) ∈ GW := GW_3 0 (List.mem_of_getElem? (i := 225) rfl) rfl
theorem mw706 : (Jvm.Cond.methodLink "Marginnote$Message" (1 : Nat) ({ cls := "java/lang/Object", name := "<init>", desc := "()V" } : Jvm.MethodName)) ∈ GW := GW_3 0 (List.mem_of_getElem? (i := 226) rfl) rfl
theorem mw707 : (Jvm.Cond.classLink "Marginnote$Message" (7 : Nat) "Marginnote$ActSet") ∈ GW := GW_3 0 (List.mem_of_getElem? (i := 227) rfl) rfl
theorem mw709 : (Jvm.Cond.methodLink "Marginnote$Message" (25 : Nat) ({ cls := "Marginnote$ActSet", name := "copyFrom", desc := "(LMarginnote$ActSet;)V" } : Jvm.MethodName)) ∈ GW := GW_3 0 (List.mem_of_getElem? (i := 229) rfl) rfl
theorem mw710 : (Jvm.Cond.instanceMethod ({ cls := "Marginnote$ActSet", name := "copyFrom", desc := "(LMarginnote$ActSet;)V" } : Jvm.MethodName)) ∈ GW := GW_3 0 (List.mem_of_getElem? (i := 230) rfl) rfl
theorem mw711 : (Jvm.Cond.selects "Marginnote$ActSet" ({ cls := "Marginnote$ActSet", name := "copyFrom", desc := "(LMarginnote$ActSet;)V" } : Jvm.MethodName) ({ cls := "Marginnote$ActSet", name := "copyFrom", desc := "(LMarginnote$ActSet;)V" } : Jvm.MethodName)) ∈ GW := GW_3 0 (List.mem_of_getElem? (i := 231) rfl) rfl
theorem mw712 : (Jvm.Cond.code ({ cls := "Marginnote$ActSet", name := "copyFrom", desc := "(LMarginnote$ActSet;)V" } : Jvm.MethodName) prog_2_method_6_code (3 : Nat) (Option.none : Option Jvm.ClassFile.FieldType)) ∈ GW := GW_3 0 (List.mem_of_getElem? (i := 232) rfl) rfl
theorem mw713 : (Jvm.Cond.methodLink "Marginnote$ActSet" (19 : Nat) ({ cls := "Marginnote$ActSet", name := "contains", desc := "(I)Z" } : Jvm.MethodName)) ∈ GW := GW_3 0 (List.mem_of_getElem? (i := 233) rfl) rfl
theorem mw714 : (Jvm.Cond.methodLink "Marginnote$Message" (33 : Nat) ({ cls := "[I", name := "clone", desc := "()Ljava/lang/Object;" } : Jvm.MethodName)) ∈ GW := GW_3 0 (List.mem_of_getElem? (i := 234) rfl) rfl
theorem mw716 : (Jvm.Cond.native ({ cls := "java/lang/Object", name := "clone", desc := "()Ljava/lang/Object;" } : Jvm.MethodName)) ∈ GW := GW_3 0 (List.mem_of_getElem? (i := 236) rfl) rfl
theorem mw717 : (Jvm.Cond.instanceMethod ({ cls := "java/lang/Object", name := "clone", desc := "()Ljava/lang/Object;" } : Jvm.MethodName)) ∈ GW := GW_3 0 (List.mem_of_getElem? (i := 237) rfl) rfl
theorem mw718 : (Jvm.Cond.selects "[I" ({ cls := "[I", name := "clone", desc := "()Ljava/lang/Object;" } : Jvm.MethodName) ({ cls := "java/lang/Object", name := "clone", desc := "()Ljava/lang/Object;" } : Jvm.MethodName)) ∈ GW := GW_3 0 (List.mem_of_getElem? (i := 238) rfl) rfl
theorem mw720 : (Jvm.Cond.classLink "Marginnote$Message" (34 : Nat) "[I") ∈ GW := GW_4 0 (List.mem_of_getElem? (i := 0) rfl) rfl
theorem mw721 : (Jvm.Cond.fieldLink "Marginnote$Message" (16 : Nat) "Marginnote$Message" "receiver" "I") ∈ GW := GW_4 0 (List.mem_of_getElem? (i := 1) rfl) rfl
theorem mw723 : (Jvm.Cond.fieldLink "Marginnote$Message" (10 : Nat) "Marginnote$Message" "acts" "LMarginnote$ActSet;") ∈ GW := GW_4 0 (List.mem_of_getElem? (i := 3) rfl) rfl
theorem mw725 : (Jvm.Cond.fieldLink "Marginnote$Message" (38 : Nat) "Marginnote$Message" "known" "[I") ∈ GW := GW_4 0 (List.mem_of_getElem? (i := 5) rfl) rfl
theorem mw727 : (Jvm.Cond.laysFinal "Marginnote$Message" "Marginnote$Message" "receiver" "I") ∈ GW := GW_4 0 (List.mem_of_getElem? (i := 7) rfl) rfl
theorem mw729 : (Jvm.Cond.laysFinal "Marginnote$Message" "Marginnote$Message" "acts" "LMarginnote$ActSet;") ∈ GW := GW_4 0 (List.mem_of_getElem? (i := 9) rfl) rfl
theorem mw731 : (Jvm.Cond.laysFinal "Marginnote$Message" "Marginnote$Message" "known" "[I") ∈ GW := GW_4 0 (List.mem_of_getElem? (i := 11) rfl) rfl
theorem mw734 : (Jvm.Cond.methodLink "MarginnoteLaw" (211 : Nat) ({ cls := "MarginnoteLaw", name := "deliver", desc := "(LMarginnote;I[J)I" } : Jvm.MethodName)) ∈ GW := GW_4 0 (List.mem_of_getElem? (i := 14) rfl) rfl
theorem mw735 : (Jvm.Cond.static ({ cls := "MarginnoteLaw", name := "deliver", desc := "(LMarginnote;I[J)I" } : Jvm.MethodName)) ∈ GW := GW_4 0 (List.mem_of_getElem? (i := 15) rfl) rfl
theorem mw736 : (Jvm.Cond.codeWith ({ cls := "MarginnoteLaw", name := "deliver", desc := "(LMarginnote;I[J)I" } : Jvm.MethodName) method_18_code (4 : Nat) (Option.some Jvm.ClassFile.FieldType.int) [((0 : Nat), (9 : Nat), (12 : Nat), (13 : Nat))]) ∈ GW := GW_4 0 (List.mem_of_getElem? (i := 16) rfl) rfl
theorem mw737 : (Jvm.Cond.methodLink "MarginnoteLaw" (66 : Nat) ({ cls := "Marginnote", name := "deliver", desc := "(I)I" } : Jvm.MethodName)) ∈ GW := GW_4 0 (List.mem_of_getElem? (i := 17) rfl) rfl
theorem mw738 : (Jvm.Cond.instanceMethod ({ cls := "Marginnote", name := "deliver", desc := "(I)I" } : Jvm.MethodName)) ∈ GW := GW_4 0 (List.mem_of_getElem? (i := 18) rfl) rfl
theorem mw739 : (Jvm.Cond.selects "Marginnote" ({ cls := "Marginnote", name := "deliver", desc := "(I)I" } : Jvm.MethodName) ({ cls := "Marginnote", name := "deliver", desc := "(I)I" } : Jvm.MethodName)) ∈ GW := GW_4 0 (List.mem_of_getElem? (i := 19) rfl) rfl
theorem mw740 : (Jvm.Cond.code ({ cls := "Marginnote", name := "deliver", desc := "(I)I" } : Jvm.MethodName) prog_1_method_17_code (7 : Nat) (Option.some Jvm.ClassFile.FieldType.int)) ∈ GW := GW_4 0 (List.mem_of_getElem? (i := 20) rfl) rfl
theorem mw741 : (Jvm.Cond.methodLink "Marginnote" (186 : Nat) ({ cls := "Marginnote", name := "messageAt", desc := "(I)LMarginnote$Message;" } : Jvm.MethodName)) ∈ GW := GW_4 0 (List.mem_of_getElem? (i := 21) rfl) rfl
theorem mw743 : (Jvm.Cond.instanceMethod ({ cls := "Marginnote", name := "messageAt", desc := "(I)LMarginnote$Message;" } : Jvm.MethodName)) ∈ GW := GW_4 0 (List.mem_of_getElem? (i := 23) rfl) rfl
theorem mw744 : (Jvm.Cond.code ({ cls := "Marginnote", name := "messageAt", desc := "(I)LMarginnote$Message;" } : Jvm.MethodName) prog_1_method_46_code (2 : Nat) (Option.some (Jvm.ClassFile.FieldType.object "Marginnote$Message"))) ∈ GW := GW_4 0 (List.mem_of_getElem? (i := 24) rfl) rfl
theorem mw746 : (Jvm.Cond.methodLink "Marginnote" (212 : Nat) ({ cls := "Marginnote$Book", name := "countOf", desc := "(I)I" } : Jvm.MethodName)) ∈ GW := GW_4 0 (List.mem_of_getElem? (i := 26) rfl) rfl
theorem mw747 : (Jvm.Cond.methodLink "Marginnote" (222 : Nat) ({ cls := "Marginnote$Site", name := "learn", desc := "([I)V" } : Jvm.MethodName)) ∈ GW := GW_4 0 (List.mem_of_getElem? (i := 27) rfl) rfl
theorem mw748 : (Jvm.Cond.instanceMethod ({ cls := "Marginnote$Site", name := "learn", desc := "([I)V" } : Jvm.MethodName)) ∈ GW := GW_4 0 (List.mem_of_getElem? (i := 28) rfl) rfl
theorem mw749 : (Jvm.Cond.selects "Marginnote$Site" ({ cls := "Marginnote$Site", name := "learn", desc := "([I)V" } : Jvm.MethodName) ({ cls := "Marginnote$Site", name := "learn", desc := "([I)V" } : Jvm.MethodName)) ∈ GW := GW_4 0 (List.mem_of_getElem? (i := 29) rfl) rfl
theorem mw750 : (Jvm.Cond.code ({ cls := "Marginnote$Site", name := "learn", desc := "([I)V" } : Jvm.MethodName) prog_6_method_4_code (3 : Nat) (Option.none : Option Jvm.ClassFile.FieldType)) ∈ GW := GW_4 0 (List.mem_of_getElem? (i := 30) rfl) rfl
theorem mw751 : (Jvm.Cond.methodLink "MarginnoteLaw" (214 : Nat) ({ cls := "MarginnoteLaw", name := "save", desc := "(LMarginnote;I[J)I" } : Jvm.MethodName)) ∈ GW := GW_4 0 (List.mem_of_getElem? (i := 31) rfl) rfl
theorem mw752 : (Jvm.Cond.static ({ cls := "MarginnoteLaw", name := "save", desc := "(LMarginnote;I[J)I" } : Jvm.MethodName)) ∈ GW := GW_4 0 (List.mem_of_getElem? (i := 32) rfl) rfl
theorem mw753 : (Jvm.Cond.codeWith ({ cls := "MarginnoteLaw", name := "save", desc := "(LMarginnote;I[J)I" } : Jvm.MethodName) method_19_code (4 : Nat) (Option.some Jvm.ClassFile.FieldType.int) [((0 : Nat), (9 : Nat), (12 : Nat), (13 : Nat))]) ∈ GW := GW_4 0 (List.mem_of_getElem? (i := 33) rfl) rfl
theorem mw754 : (Jvm.Cond.methodLink "MarginnoteLaw" (69 : Nat) ({ cls := "Marginnote", name := "save", desc := "(I)I" } : Jvm.MethodName)) ∈ GW := GW_4 0 (List.mem_of_getElem? (i := 34) rfl) rfl
theorem mw755 : (Jvm.Cond.instanceMethod ({ cls := "Marginnote", name := "save", desc := "(I)I" } : Jvm.MethodName)) ∈ GW := GW_4 0 (List.mem_of_getElem? (i := 35) rfl) rfl
theorem mw756 : (Jvm.Cond.selects "Marginnote" ({ cls := "Marginnote", name := "save", desc := "(I)I" } : Jvm.MethodName) ({ cls := "Marginnote", name := "save", desc := "(I)I" } : Jvm.MethodName)) ∈ GW := GW_4 0 (List.mem_of_getElem? (i := 36) rfl) rfl
theorem mw757 : (Jvm.Cond.code ({ cls := "Marginnote", name := "save", desc := "(I)I" } : Jvm.MethodName) prog_1_method_18_code (4 : Nat) (Option.some Jvm.ClassFile.FieldType.int)) ∈ GW := GW_4 0 (List.mem_of_getElem? (i := 37) rfl) rfl
theorem mw758 : (Jvm.Cond.methodLink "Marginnote" (229 : Nat) ({ cls := "Marginnote$Site", name := "unsafeCount", desc := "()I" } : Jvm.MethodName)) ∈ GW := GW_4 0 (List.mem_of_getElem? (i := 38) rfl) rfl
theorem mw759 : (Jvm.Cond.instanceMethod ({ cls := "Marginnote$Site", name := "unsafeCount", desc := "()I" } : Jvm.MethodName)) ∈ GW := GW_4 0 (List.mem_of_getElem? (i := 39) rfl) rfl
theorem mw760 : (Jvm.Cond.selects "Marginnote$Site" ({ cls := "Marginnote$Site", name := "unsafeCount", desc := "()I" } : Jvm.MethodName) ({ cls := "Marginnote$Site", name := "unsafeCount", desc := "()I" } : Jvm.MethodName)) ∈ GW := GW_4 0 (List.mem_of_getElem? (i := 40) rfl) rfl
theorem mw761 : (Jvm.Cond.code ({ cls := "Marginnote$Site", name := "unsafeCount", desc := "()I" } : Jvm.MethodName) prog_6_method_6_code (1 : Nat) (Option.some Jvm.ClassFile.FieldType.int)) ∈ GW := GW_4 0 (List.mem_of_getElem? (i := 41) rfl) rfl
theorem mw762 : (Jvm.Cond.methodLink "Marginnote$Site" (71 : Nat) ({ cls := "Marginnote$Site", name := "knownOf", desc := "(I)I" } : Jvm.MethodName)) ∈ GW := GW_4 0 (List.mem_of_getElem? (i := 42) rfl) rfl
theorem mw763 : (Jvm.Cond.instanceMethod ({ cls := "Marginnote$Site", name := "knownOf", desc := "(I)I" } : Jvm.MethodName)) ∈ GW := GW_4 0 (List.mem_of_getElem? (i := 43) rfl) rfl
theorem mw764 : (Jvm.Cond.selects "Marginnote$Site" ({ cls := "Marginnote$Site", name := "knownOf", desc := "(I)I" } : Jvm.MethodName) ({ cls := "Marginnote$Site", name := "knownOf", desc := "(I)I" } : Jvm.MethodName)) ∈ GW := GW_4 0 (List.mem_of_getElem? (i := 44) rfl) rfl
theorem mw765 : (Jvm.Cond.code ({ cls := "Marginnote$Site", name := "knownOf", desc := "(I)I" } : Jvm.MethodName) prog_6_method_5_code (2 : Nat) (Option.some Jvm.ClassFile.FieldType.int)) ∈ GW := GW_4 0 (List.mem_of_getElem? (i := 45) rfl) rfl
theorem mw766 : (Jvm.Cond.methodLink "Marginnote" (233 : Nat) ({ cls := "Marginnote$Site", name := "makeAllSafe", desc := "()V" } : Jvm.MethodName)) ∈ GW := GW_4 0 (List.mem_of_getElem? (i := 46) rfl) rfl
theorem mw767 : (Jvm.Cond.instanceMethod ({ cls := "Marginnote$Site", name := "makeAllSafe", desc := "()V" } : Jvm.MethodName)) ∈ GW := GW_4 0 (List.mem_of_getElem? (i := 47) rfl) rfl
theorem mw768 : (Jvm.Cond.selects "Marginnote$Site" ({ cls := "Marginnote$Site", name := "makeAllSafe", desc := "()V" } : Jvm.MethodName) ({ cls := "Marginnote$Site", name := "makeAllSafe", desc := "()V" } : Jvm.MethodName)) ∈ GW := GW_4 0 (List.mem_of_getElem? (i := 48) rfl) rfl
theorem mw769 : (Jvm.Cond.code ({ cls := "Marginnote$Site", name := "makeAllSafe", desc := "()V" } : Jvm.MethodName) prog_6_method_7_code (1 : Nat) (Option.none : Option Jvm.ClassFile.FieldType)) ∈ GW := GW_4 0 (List.mem_of_getElem? (i := 49) rfl) rfl
theorem mw770 : (Jvm.Cond.methodLink "MarginnoteLaw" (217 : Nat) ({ cls := "MarginnoteLaw", name := "crash", desc := "(LMarginnote;II[J)I" } : Jvm.MethodName)) ∈ GW := GW_4 0 (List.mem_of_getElem? (i := 50) rfl) rfl
theorem mw771 : (Jvm.Cond.static ({ cls := "MarginnoteLaw", name := "crash", desc := "(LMarginnote;II[J)I" } : Jvm.MethodName)) ∈ GW := GW_4 0 (List.mem_of_getElem? (i := 51) rfl) rfl
theorem mw772 : (Jvm.Cond.codeWith ({ cls := "MarginnoteLaw", name := "crash", desc := "(LMarginnote;II[J)I" } : Jvm.MethodName) method_20_code (5 : Nat) (Option.some Jvm.ClassFile.FieldType.int) [((0 : Nat), (10 : Nat), (13 : Nat), (13 : Nat)), ((0 : Nat), (10 : Nat), (17 : Nat), (15 : Nat))]) ∈ GW := GW_4 0 (List.mem_of_getElem? (i := 52) rfl) rfl
theorem mw773 : (Jvm.Cond.methodLink "MarginnoteLaw" (72 : Nat) ({ cls := "Marginnote", name := "crash", desc := "(II)I" } : Jvm.MethodName)) ∈ GW := GW_4 0 (List.mem_of_getElem? (i := 53) rfl) rfl
theorem mw774 : (Jvm.Cond.instanceMethod ({ cls := "Marginnote", name := "crash", desc := "(II)I" } : Jvm.MethodName)) ∈ GW := GW_4 0 (List.mem_of_getElem? (i := 54) rfl) rfl
theorem mw775 : (Jvm.Cond.selects "Marginnote" ({ cls := "Marginnote", name := "crash", desc := "(II)I" } : Jvm.MethodName) ({ cls := "Marginnote", name := "crash", desc := "(II)I" } : Jvm.MethodName)) ∈ GW := GW_4 0 (List.mem_of_getElem? (i := 55) rfl) rfl
theorem mw776 : (Jvm.Cond.code ({ cls := "Marginnote", name := "crash", desc := "(II)I" } : Jvm.MethodName) prog_1_method_19_code (5 : Nat) (Option.some Jvm.ClassFile.FieldType.int)) ∈ GW := GW_4 0 (List.mem_of_getElem? (i := 56) rfl) rfl
theorem mw778 : (Jvm.Cond.methodLink "Marginnote" (238 : Nat) ({ cls := "Marginnote$Site", name := "loseLast", desc := "()V" } : Jvm.MethodName)) ∈ GW := GW_4 0 (List.mem_of_getElem? (i := 58) rfl) rfl
theorem mw779 : (Jvm.Cond.instanceMethod ({ cls := "Marginnote$Site", name := "loseLast", desc := "()V" } : Jvm.MethodName)) ∈ GW := GW_4 0 (List.mem_of_getElem? (i := 59) rfl) rfl
theorem mw780 : (Jvm.Cond.selects "Marginnote$Site" ({ cls := "Marginnote$Site", name := "loseLast", desc := "()V" } : Jvm.MethodName) ({ cls := "Marginnote$Site", name := "loseLast", desc := "()V" } : Jvm.MethodName)) ∈ GW := GW_4 0 (List.mem_of_getElem? (i := 60) rfl) rfl
theorem mw781 : (Jvm.Cond.code ({ cls := "Marginnote$Site", name := "loseLast", desc := "()V" } : Jvm.MethodName) prog_6_method_3_code (3 : Nat) (Option.none : Option Jvm.ClassFile.FieldType)) ∈ GW := GW_4 0 (List.mem_of_getElem? (i := 61) rfl) rfl
theorem mw782 : (Jvm.Cond.methodLink "Marginnote$Site" (68 : Nat) ({ cls := "Marginnote$ActSet", name := "drop", desc := "(I)V" } : Jvm.MethodName)) ∈ GW := GW_4 0 (List.mem_of_getElem? (i := 62) rfl) rfl
theorem mw783 : (Jvm.Cond.instanceMethod ({ cls := "Marginnote$ActSet", name := "drop", desc := "(I)V" } : Jvm.MethodName)) ∈ GW := GW_4 0 (List.mem_of_getElem? (i := 63) rfl) rfl
theorem mw784 : (Jvm.Cond.selects "Marginnote$ActSet" ({ cls := "Marginnote$ActSet", name := "drop", desc := "(I)V" } : Jvm.MethodName) ({ cls := "Marginnote$ActSet", name := "drop", desc := "(I)V" } : Jvm.MethodName)) ∈ GW := GW_4 0 (List.mem_of_getElem? (i := 64) rfl) rfl
theorem mw785 : (Jvm.Cond.code ({ cls := "Marginnote$ActSet", name := "drop", desc := "(I)V" } : Jvm.MethodName) prog_2_method_4_code (2 : Nat) (Option.none : Option Jvm.ClassFile.FieldType)) ∈ GW := GW_4 0 (List.mem_of_getElem? (i := 65) rfl) rfl
theorem mw786 : (Jvm.Cond.methodLink "MarginnoteLaw" (220 : Nat) ({ cls := "MarginnoteLaw", name := "name", desc := "(LMarginnote;I[J)I" } : Jvm.MethodName)) ∈ GW := GW_4 0 (List.mem_of_getElem? (i := 66) rfl) rfl
theorem mw787 : (Jvm.Cond.static ({ cls := "MarginnoteLaw", name := "name", desc := "(LMarginnote;I[J)I" } : Jvm.MethodName)) ∈ GW := GW_4 0 (List.mem_of_getElem? (i := 67) rfl) rfl
theorem mw788 : (Jvm.Cond.codeWith ({ cls := "MarginnoteLaw", name := "name", desc := "(LMarginnote;I[J)I" } : Jvm.MethodName) method_21_code (4 : Nat) (Option.some Jvm.ClassFile.FieldType.int) [((0 : Nat), (9 : Nat), (12 : Nat), (13 : Nat)), ((0 : Nat), (9 : Nat), (15 : Nat), (17 : Nat))]) ∈ GW := GW_4 0 (List.mem_of_getElem? (i := 68) rfl) rfl
theorem mw789 : (Jvm.Cond.methodLink "MarginnoteLaw" (75 : Nat) ({ cls := "Marginnote", name := "name", desc := "(I)I" } : Jvm.MethodName)) ∈ GW := GW_4 0 (List.mem_of_getElem? (i := 69) rfl) rfl
theorem mw790 : (Jvm.Cond.instanceMethod ({ cls := "Marginnote", name := "name", desc := "(I)I" } : Jvm.MethodName)) ∈ GW := GW_4 0 (List.mem_of_getElem? (i := 70) rfl) rfl
theorem mw791 : (Jvm.Cond.selects "Marginnote" ({ cls := "Marginnote", name := "name", desc := "(I)I" } : Jvm.MethodName) ({ cls := "Marginnote", name := "name", desc := "(I)I" } : Jvm.MethodName)) ∈ GW := GW_4 0 (List.mem_of_getElem? (i := 71) rfl) rfl
theorem mw792 : (Jvm.Cond.code ({ cls := "Marginnote", name := "name", desc := "(I)I" } : Jvm.MethodName) prog_1_method_20_code (3 : Nat) (Option.some Jvm.ClassFile.FieldType.int)) ∈ GW := GW_4 0 (List.mem_of_getElem? (i := 72) rfl) rfl
theorem mw794 : (Jvm.Cond.methodLink "Marginnote" (246 : Nat) ({ cls := "Marginnote$ActSet", name := "copyFrom", desc := "(LMarginnote$ActSet;)V" } : Jvm.MethodName)) ∈ GW := GW_4 0 (List.mem_of_getElem? (i := 74) rfl) rfl
theorem mw795 : (Jvm.Cond.methodLink "MarginnoteLaw" (223 : Nat) ({ cls := "MarginnoteLaw", name := "bringBack", desc := "(LMarginnote;II[J)I" } : Jvm.MethodName)) ∈ GW := GW_4 0 (List.mem_of_getElem? (i := 75) rfl) rfl
theorem mw796 : (Jvm.Cond.static ({ cls := "MarginnoteLaw", name := "bringBack", desc := "(LMarginnote;II[J)I" } : Jvm.MethodName)) ∈ GW := GW_4 0 (List.mem_of_getElem? (i := 76) rfl) rfl
theorem mw797 : (Jvm.Cond.codeWith ({ cls := "MarginnoteLaw", name := "bringBack", desc := "(LMarginnote;II[J)I" } : Jvm.MethodName) method_22_code (5 : Nat) (Option.some Jvm.ClassFile.FieldType.int) [((0 : Nat), (10 : Nat), (13 : Nat), (13 : Nat)), ((0 : Nat), (10 : Nat), (17 : Nat), (17 : Nat))]) ∈ GW := GW_4 0 (List.mem_of_getElem? (i := 77) rfl) rfl
theorem mw798 : (Jvm.Cond.methodLink "MarginnoteLaw" (78 : Nat) ({ cls := "Marginnote", name := "bringBack", desc := "(II)I" } : Jvm.MethodName)) ∈ GW := GW_4 0 (List.mem_of_getElem? (i := 78) rfl) rfl
theorem mw799 : (Jvm.Cond.instanceMethod ({ cls := "Marginnote", name := "bringBack", desc := "(II)I" } : Jvm.MethodName)) ∈ GW := GW_4 0 (List.mem_of_getElem? (i := 79) rfl) rfl
theorem mw800 : (Jvm.Cond.selects "Marginnote" ({ cls := "Marginnote", name := "bringBack", desc := "(II)I" } : Jvm.MethodName) ({ cls := "Marginnote", name := "bringBack", desc := "(II)I" } : Jvm.MethodName)) ∈ GW := GW_4 0 (List.mem_of_getElem? (i := 80) rfl) rfl
theorem mw801 : (Jvm.Cond.code ({ cls := "Marginnote", name := "bringBack", desc := "(II)I" } : Jvm.MethodName) prog_1_method_21_code (9 : Nat) (Option.some Jvm.ClassFile.FieldType.int)) ∈ GW := GW_4 0 (List.mem_of_getElem? (i := 81) rfl) rfl
theorem mw802 : (Jvm.Cond.methodLink "Marginnote" (250 : Nat) ({ cls := "Marginnote", name := "versionAt", desc := "(I)LMarginnote$ActSet;" } : Jvm.MethodName)) ∈ GW := GW_4 0 (List.mem_of_getElem? (i := 82) rfl) rfl
theorem mw804 : (Jvm.Cond.instanceMethod ({ cls := "Marginnote", name := "versionAt", desc := "(I)LMarginnote$ActSet;" } : Jvm.MethodName)) ∈ GW := GW_4 0 (List.mem_of_getElem? (i := 84) rfl) rfl
theorem mw805 : (Jvm.Cond.code ({ cls := "Marginnote", name := "versionAt", desc := "(I)LMarginnote$ActSet;" } : Jvm.MethodName) prog_1_method_47_code (2 : Nat) (Option.some (Jvm.ClassFile.FieldType.object "Marginnote$ActSet"))) ∈ GW := GW_4 0 (List.mem_of_getElem? (i := 85) rfl) rfl
theorem mw807 : (Jvm.Cond.methodLink "Marginnote" (254 : Nat) ({ cls := "Marginnote$ActSet", name := "containsAll", desc := "(LMarginnote$ActSet;)Z" } : Jvm.MethodName)) ∈ GW := GW_4 0 (List.mem_of_getElem? (i := 87) rfl) rfl
theorem mw808 : (Jvm.Cond.instanceMethod ({ cls := "Marginnote$ActSet", name := "containsAll", desc := "(LMarginnote$ActSet;)Z" } : Jvm.MethodName)) ∈ GW := GW_4 0 (List.mem_of_getElem? (i := 88) rfl) rfl
theorem mw809 : (Jvm.Cond.selects "Marginnote$ActSet" ({ cls := "Marginnote$ActSet", name := "containsAll", desc := "(LMarginnote$ActSet;)Z" } : Jvm.MethodName) ({ cls := "Marginnote$ActSet", name := "containsAll", desc := "(LMarginnote$ActSet;)Z" } : Jvm.MethodName)) ∈ GW := GW_4 0 (List.mem_of_getElem? (i := 89) rfl) rfl
theorem mw810 : (Jvm.Cond.code ({ cls := "Marginnote$ActSet", name := "containsAll", desc := "(LMarginnote$ActSet;)Z" } : Jvm.MethodName) prog_2_method_7_code (3 : Nat) (Option.some Jvm.ClassFile.FieldType.boolean)) ∈ GW := GW_4 0 (List.mem_of_getElem? (i := 90) rfl) rfl
theorem mw812 : (Jvm.Cond.methodLink "Marginnote" (263 : Nat) ({ cls := "Marginnote$Paper", name := "pickDifferent", desc := "(LMarginnote$Paper;[I)I" } : Jvm.MethodName)) ∈ GW := GW_4 0 (List.mem_of_getElem? (i := 92) rfl) rfl
theorem mw813 : (Jvm.Cond.instanceMethod ({ cls := "Marginnote$Paper", name := "pickDifferent", desc := "(LMarginnote$Paper;[I)I" } : Jvm.MethodName)) ∈ GW := GW_4 0 (List.mem_of_getElem? (i := 93) rfl) rfl
theorem mw814 : (Jvm.Cond.selects "Marginnote$Paper" ({ cls := "Marginnote$Paper", name := "pickDifferent", desc := "(LMarginnote$Paper;[I)I" } : Jvm.MethodName) ({ cls := "Marginnote$Paper", name := "pickDifferent", desc := "(LMarginnote$Paper;[I)I" } : Jvm.MethodName)) ∈ GW := GW_4 0 (List.mem_of_getElem? (i := 94) rfl) rfl
theorem mw815 : (Jvm.Cond.code ({ cls := "Marginnote$Paper", name := "pickDifferent", desc := "(LMarginnote$Paper;[I)I" } : Jvm.MethodName) prog_5_method_33_code (6 : Nat) (Option.some Jvm.ClassFile.FieldType.int)) ∈ GW := GW_4 0 (List.mem_of_getElem? (i := 95) rfl) rfl
theorem mw816 : (Jvm.Cond.methodLink "Marginnote$Paper" (175 : Nat) ({ cls := "Marginnote$Paper", name := "isShown", desc := "(I)Z" } : Jvm.MethodName)) ∈ GW := GW_4 0 (List.mem_of_getElem? (i := 96) rfl) rfl
theorem mw817 : (Jvm.Cond.instanceMethod ({ cls := "Marginnote$Paper", name := "isShown", desc := "(I)Z" } : Jvm.MethodName)) ∈ GW := GW_4 0 (List.mem_of_getElem? (i := 97) rfl) rfl
theorem mw818 : (Jvm.Cond.selects "Marginnote$Paper" ({ cls := "Marginnote$Paper", name := "isShown", desc := "(I)Z" } : Jvm.MethodName) ({ cls := "Marginnote$Paper", name := "isShown", desc := "(I)Z" } : Jvm.MethodName)) ∈ GW := GW_4 0 (List.mem_of_getElem? (i := 98) rfl) rfl
theorem mw819 : (Jvm.Cond.code ({ cls := "Marginnote$Paper", name := "isShown", desc := "(I)Z" } : Jvm.MethodName) prog_5_method_23_code (2 : Nat) (Option.some Jvm.ClassFile.FieldType.boolean)) ∈ GW := GW_4 0 (List.mem_of_getElem? (i := 99) rfl) rfl
theorem mw820 : (Jvm.Cond.methodLink "Marginnote" (267 : Nat) ({ cls := "Marginnote$Paper", name := "isShown", desc := "(I)Z" } : Jvm.MethodName)) ∈ GW := GW_4 0 (List.mem_of_getElem? (i := 100) rfl) rfl
theorem mw821 : (Jvm.Cond.methodLink "MarginnoteLaw" (226 : Nat) ({ cls := "MarginnoteLaw", name := "differ", desc := "(LMarginnote;II[J)I" } : Jvm.MethodName)) ∈ GW := GW_4 0 (List.mem_of_getElem? (i := 101) rfl) rfl
theorem mw822 : (Jvm.Cond.static ({ cls := "MarginnoteLaw", name := "differ", desc := "(LMarginnote;II[J)I" } : Jvm.MethodName)) ∈ GW := GW_4 0 (List.mem_of_getElem? (i := 102) rfl) rfl
theorem mw823 : (Jvm.Cond.codeWith ({ cls := "MarginnoteLaw", name := "differ", desc := "(LMarginnote;II[J)I" } : Jvm.MethodName) method_23_code (5 : Nat) (Option.some Jvm.ClassFile.FieldType.int) [((0 : Nat), (10 : Nat), (13 : Nat), (13 : Nat))]) ∈ GW := GW_4 0 (List.mem_of_getElem? (i := 103) rfl) rfl
theorem mw824 : (Jvm.Cond.methodLink "MarginnoteLaw" (81 : Nat) ({ cls := "Marginnote", name := "differ", desc := "(II)I" } : Jvm.MethodName)) ∈ GW := GW_4 0 (List.mem_of_getElem? (i := 104) rfl) rfl
theorem mw825 : (Jvm.Cond.instanceMethod ({ cls := "Marginnote", name := "differ", desc := "(II)I" } : Jvm.MethodName)) ∈ GW := GW_4 0 (List.mem_of_getElem? (i := 105) rfl) rfl
theorem mw826 : (Jvm.Cond.selects "Marginnote" ({ cls := "Marginnote", name := "differ", desc := "(II)I" } : Jvm.MethodName) ({ cls := "Marginnote", name := "differ", desc := "(II)I" } : Jvm.MethodName)) ∈ GW := GW_4 0 (List.mem_of_getElem? (i := 106) rfl) rfl
theorem mw827 : (Jvm.Cond.code ({ cls := "Marginnote", name := "differ", desc := "(II)I" } : Jvm.MethodName) prog_1_method_22_code (7 : Nat) (Option.some Jvm.ClassFile.FieldType.int)) ∈ GW := GW_4 0 (List.mem_of_getElem? (i := 107) rfl) rfl
theorem mw828 : (Jvm.Cond.methodLink "MarginnoteLaw" (229 : Nat) ({ cls := "MarginnoteLaw", name := "length", desc := "(LMarginnote;I[J)I" } : Jvm.MethodName)) ∈ GW := GW_4 0 (List.mem_of_getElem? (i := 108) rfl) rfl
theorem mw829 : (Jvm.Cond.static ({ cls := "MarginnoteLaw", name := "length", desc := "(LMarginnote;I[J)I" } : Jvm.MethodName)) ∈ GW := GW_4 0 (List.mem_of_getElem? (i := 109) rfl) rfl
theorem mw830 : (Jvm.Cond.codeWith ({ cls := "MarginnoteLaw", name := "length", desc := "(LMarginnote;I[J)I" } : Jvm.MethodName) method_24_code (4 : Nat) (Option.some Jvm.ClassFile.FieldType.int) [((0 : Nat), (9 : Nat), (12 : Nat), (13 : Nat))]) ∈ GW := GW_4 0 (List.mem_of_getElem? (i := 110) rfl) rfl
theorem mw831 : (Jvm.Cond.methodLink "MarginnoteLaw" (84 : Nat) ({ cls := "Marginnote", name := "length", desc := "(I)I" } : Jvm.MethodName)) ∈ GW := GW_4 0 (List.mem_of_getElem? (i := 111) rfl) rfl
theorem mw832 : (Jvm.Cond.instanceMethod ({ cls := "Marginnote", name := "length", desc := "(I)I" } : Jvm.MethodName)) ∈ GW := GW_4 0 (List.mem_of_getElem? (i := 112) rfl) rfl
theorem mw833 : (Jvm.Cond.selects "Marginnote" ({ cls := "Marginnote", name := "length", desc := "(I)I" } : Jvm.MethodName) ({ cls := "Marginnote", name := "length", desc := "(I)I" } : Jvm.MethodName)) ∈ GW := GW_4 0 (List.mem_of_getElem? (i := 113) rfl) rfl
theorem mw834 : (Jvm.Cond.code ({ cls := "Marginnote", name := "length", desc := "(I)I" } : Jvm.MethodName) prog_1_method_23_code (2 : Nat) (Option.some Jvm.ClassFile.FieldType.int)) ∈ GW := GW_4 0 (List.mem_of_getElem? (i := 114) rfl) rfl
theorem mw835 : (Jvm.Cond.methodLink "Marginnote" (270 : Nat) ({ cls := "Marginnote$Paper", name := "countSeen", desc := "()I" } : Jvm.MethodName)) ∈ GW := GW_4 0 (List.mem_of_getElem? (i := 115) rfl) rfl
theorem mw836 : (Jvm.Cond.instanceMethod ({ cls := "Marginnote$Paper", name := "countSeen", desc := "()I" } : Jvm.MethodName)) ∈ GW := GW_4 0 (List.mem_of_getElem? (i := 116) rfl) rfl
theorem mw837 : (Jvm.Cond.selects "Marginnote$Paper" ({ cls := "Marginnote$Paper", name := "countSeen", desc := "()I" } : Jvm.MethodName) ({ cls := "Marginnote$Paper", name := "countSeen", desc := "()I" } : Jvm.MethodName)) ∈ GW := GW_4 0 (List.mem_of_getElem? (i := 117) rfl) rfl
theorem mw838 : (Jvm.Cond.code ({ cls := "Marginnote$Paper", name := "countSeen", desc := "()I" } : Jvm.MethodName) prog_5_method_34_code (3 : Nat) (Option.some Jvm.ClassFile.FieldType.int)) ∈ GW := GW_4 0 (List.mem_of_getElem? (i := 118) rfl) rfl
theorem mw839 : (Jvm.Cond.methodLink "MarginnoteLaw" (232 : Nat) ({ cls := "MarginnoteLaw", name := "shown", desc := "(LMarginnote;I[J)I" } : Jvm.MethodName)) ∈ GW := GW_4 0 (List.mem_of_getElem? (i := 119) rfl) rfl
theorem mw840 : (Jvm.Cond.static ({ cls := "MarginnoteLaw", name := "shown", desc := "(LMarginnote;I[J)I" } : Jvm.MethodName)) ∈ GW := GW_4 0 (List.mem_of_getElem? (i := 120) rfl) rfl
theorem mw841 : (Jvm.Cond.codeWith ({ cls := "MarginnoteLaw", name := "shown", desc := "(LMarginnote;I[J)I" } : Jvm.MethodName) method_25_code (4 : Nat) (Option.some Jvm.ClassFile.FieldType.int) [((0 : Nat), (9 : Nat), (12 : Nat), (13 : Nat))]) ∈ GW := GW_4 0 (List.mem_of_getElem? (i := 121) rfl) rfl
theorem mw842 : (Jvm.Cond.methodLink "MarginnoteLaw" (87 : Nat) ({ cls := "Marginnote", name := "shown", desc := "(I)I" } : Jvm.MethodName)) ∈ GW := GW_4 0 (List.mem_of_getElem? (i := 122) rfl) rfl
theorem mw843 : (Jvm.Cond.instanceMethod ({ cls := "Marginnote", name := "shown", desc := "(I)I" } : Jvm.MethodName)) ∈ GW := GW_4 0 (List.mem_of_getElem? (i := 123) rfl) rfl
theorem mw844 : (Jvm.Cond.selects "Marginnote" ({ cls := "Marginnote", name := "shown", desc := "(I)I" } : Jvm.MethodName) ({ cls := "Marginnote", name := "shown", desc := "(I)I" } : Jvm.MethodName)) ∈ GW := GW_4 0 (List.mem_of_getElem? (i := 124) rfl) rfl
theorem mw845 : (Jvm.Cond.code ({ cls := "Marginnote", name := "shown", desc := "(I)I" } : Jvm.MethodName) prog_1_method_24_code (2 : Nat) (Option.some Jvm.ClassFile.FieldType.int)) ∈ GW := GW_4 0 (List.mem_of_getElem? (i := 125) rfl) rfl
theorem mw846 : (Jvm.Cond.methodLink "Marginnote" (273 : Nat) ({ cls := "Marginnote$Paper", name := "countShown", desc := "()I" } : Jvm.MethodName)) ∈ GW := GW_4 0 (List.mem_of_getElem? (i := 126) rfl) rfl
theorem mw847 : (Jvm.Cond.instanceMethod ({ cls := "Marginnote$Paper", name := "countShown", desc := "()I" } : Jvm.MethodName)) ∈ GW := GW_4 0 (List.mem_of_getElem? (i := 127) rfl) rfl
theorem mw848 : (Jvm.Cond.selects "Marginnote$Paper" ({ cls := "Marginnote$Paper", name := "countShown", desc := "()I" } : Jvm.MethodName) ({ cls := "Marginnote$Paper", name := "countShown", desc := "()I" } : Jvm.MethodName)) ∈ GW := GW_4 0 (List.mem_of_getElem? (i := 128) rfl) rfl
theorem mw849 : (Jvm.Cond.code ({ cls := "Marginnote$Paper", name := "countShown", desc := "()I" } : Jvm.MethodName) prog_5_method_35_code (3 : Nat) (Option.some Jvm.ClassFile.FieldType.int)) ∈ GW := GW_4 0 (List.mem_of_getElem? (i := 129) rfl) rfl
theorem mw850 : (Jvm.Cond.methodLink "MarginnoteLaw" (235 : Nat) ({ cls := "MarginnoteLaw", name := "element", desc := "(LMarginnote;II[J)I" } : Jvm.MethodName)) ∈ GW := GW_4 0 (List.mem_of_getElem? (i := 130) rfl) rfl
theorem mw851 : (Jvm.Cond.static ({ cls := "MarginnoteLaw", name := "element", desc := "(LMarginnote;II[J)I" } : Jvm.MethodName)) ∈ GW := GW_4 0 (List.mem_of_getElem? (i := 131) rfl) rfl
theorem mw852 : (Jvm.Cond.codeWith ({ cls := "MarginnoteLaw", name := "element", desc := "(LMarginnote;II[J)I" } : Jvm.MethodName) method_26_code (5 : Nat) (Option.some Jvm.ClassFile.FieldType.int) [((0 : Nat), (10 : Nat), (13 : Nat), (13 : Nat))]) ∈ GW := GW_4 0 (List.mem_of_getElem? (i := 132) rfl) rfl
theorem mw853 : (Jvm.Cond.methodLink "MarginnoteLaw" (90 : Nat) ({ cls := "Marginnote", name := "element", desc := "(II)I" } : Jvm.MethodName)) ∈ GW := GW_4 0 (List.mem_of_getElem? (i := 133) rfl) rfl
theorem mw854 : (Jvm.Cond.instanceMethod ({ cls := "Marginnote", name := "element", desc := "(II)I" } : Jvm.MethodName)) ∈ GW := GW_4 0 (List.mem_of_getElem? (i := 134) rfl) rfl
theorem mw855 : (Jvm.Cond.selects "Marginnote" ({ cls := "Marginnote", name := "element", desc := "(II)I" } : Jvm.MethodName) ({ cls := "Marginnote", name := "element", desc := "(II)I" } : Jvm.MethodName)) ∈ GW := GW_4 0 (List.mem_of_getElem? (i := 135) rfl) rfl
theorem mw856 : (Jvm.Cond.code ({ cls := "Marginnote", name := "element", desc := "(II)I" } : Jvm.MethodName) prog_1_method_25_code (3 : Nat) (Option.some Jvm.ClassFile.FieldType.int)) ∈ GW := GW_4 0 (List.mem_of_getElem? (i := 136) rfl) rfl
theorem mw857 : (Jvm.Cond.methodLink "MarginnoteLaw" (238 : Nat) ({ cls := "MarginnoteLaw", name := "elementAnew", desc := "(LMarginnote;II[J)I" } : Jvm.MethodName)) ∈ GW := GW_4 0 (List.mem_of_getElem? (i := 137) rfl) rfl
theorem mw858 : (Jvm.Cond.static ({ cls := "MarginnoteLaw", name := "elementAnew", desc := "(LMarginnote;II[J)I" } : Jvm.MethodName)) ∈ GW := GW_4 0 (List.mem_of_getElem? (i := 138) rfl) rfl
theorem mw859 : (Jvm.Cond.codeWith ({ cls := "MarginnoteLaw", name := "elementAnew", desc := "(LMarginnote;II[J)I" } : Jvm.MethodName) method_27_code (5 : Nat) (Option.some Jvm.ClassFile.FieldType.int) [((0 : Nat), (10 : Nat), (13 : Nat), (13 : Nat))]) ∈ GW := GW_4 0 (List.mem_of_getElem? (i := 139) rfl) rfl
theorem mw860 : (Jvm.Cond.methodLink "MarginnoteLaw" (93 : Nat) ({ cls := "Marginnote", name := "elementAnew", desc := "(II)I" } : Jvm.MethodName)) ∈ GW := GW_4 0 (List.mem_of_getElem? (i := 140) rfl) rfl
theorem mw861 : (Jvm.Cond.instanceMethod ({ cls := "Marginnote", name := "elementAnew", desc := "(II)I" } : Jvm.MethodName)) ∈ GW := GW_4 0 (List.mem_of_getElem? (i := 141) rfl) rfl
theorem mw862 : (Jvm.Cond.selects "Marginnote" ({ cls := "Marginnote", name := "elementAnew", desc := "(II)I" } : Jvm.MethodName) ({ cls := "Marginnote", name := "elementAnew", desc := "(II)I" } : Jvm.MethodName)) ∈ GW := GW_4 0 (List.mem_of_getElem? (i := 142) rfl) rfl
theorem mw863 : (Jvm.Cond.code ({ cls := "Marginnote", name := "elementAnew", desc := "(II)I" } : Jvm.MethodName) prog_1_method_26_code (3 : Nat) (Option.some Jvm.ClassFile.FieldType.int)) ∈ GW := GW_4 0 (List.mem_of_getElem? (i := 143) rfl) rfl
theorem mw864 : (Jvm.Cond.methodLink "MarginnoteLaw" (241 : Nat) ({ cls := "MarginnoteLaw", name := "letter", desc := "(LMarginnote;II[J)I" } : Jvm.MethodName)) ∈ GW := GW_4 0 (List.mem_of_getElem? (i := 144) rfl) rfl
theorem mw865 : (Jvm.Cond.static ({ cls := "MarginnoteLaw", name := "letter", desc := "(LMarginnote;II[J)I" } : Jvm.MethodName)) ∈ GW := GW_4 0 (List.mem_of_getElem? (i := 145) rfl) rfl
theorem mw866 : (Jvm.Cond.codeWith ({ cls := "MarginnoteLaw", name := "letter", desc := "(LMarginnote;II[J)I" } : Jvm.MethodName) method_28_code (5 : Nat) (Option.some Jvm.ClassFile.FieldType.int) [((0 : Nat), (10 : Nat), (13 : Nat), (13 : Nat))]) ∈ GW := GW_4 0 (List.mem_of_getElem? (i := 146) rfl) rfl
theorem mw867 : (Jvm.Cond.methodLink "MarginnoteLaw" (96 : Nat) ({ cls := "Marginnote", name := "letter", desc := "(II)C" } : Jvm.MethodName)) ∈ GW := GW_4 0 (List.mem_of_getElem? (i := 147) rfl) rfl
theorem mw868 : (Jvm.Cond.instanceMethod ({ cls := "Marginnote", name := "letter", desc := "(II)C" } : Jvm.MethodName)) ∈ GW := GW_4 0 (List.mem_of_getElem? (i := 148) rfl) rfl
theorem mw869 : (Jvm.Cond.selects "Marginnote" ({ cls := "Marginnote", name := "letter", desc := "(II)C" } : Jvm.MethodName) ({ cls := "Marginnote", name := "letter", desc := "(II)C" } : Jvm.MethodName)) ∈ GW := GW_4 0 (List.mem_of_getElem? (i := 149) rfl) rfl
theorem mw870 : (Jvm.Cond.code ({ cls := "Marginnote", name := "letter", desc := "(II)C" } : Jvm.MethodName) prog_1_method_27_code (3 : Nat) (Option.some Jvm.ClassFile.FieldType.char)) ∈ GW := GW_4 0 (List.mem_of_getElem? (i := 150) rfl) rfl
theorem mw871 : (Jvm.Cond.methodLink "Marginnote" (279 : Nat) ({ cls := "Marginnote$Book", name := "valueOf", desc := "(I)I" } : Jvm.MethodName)) ∈ GW := GW_4 0 (List.mem_of_getElem? (i := 151) rfl) rfl
theorem mw872 : (Jvm.Cond.methodLink "MarginnoteLaw" (244 : Nat) ({ cls := "MarginnoteLaw", name := "proposed", desc := "(LMarginnote;II[J)I" } : Jvm.MethodName)) ∈ GW := GW_4 0 (List.mem_of_getElem? (i := 152) rfl) rfl
theorem mw873 : (Jvm.Cond.static ({ cls := "MarginnoteLaw", name := "proposed", desc := "(LMarginnote;II[J)I" } : Jvm.MethodName)) ∈ GW := GW_4 0 (List.mem_of_getElem? (i := 153) rfl) rfl
theorem mw874 : (Jvm.Cond.codeWith ({ cls := "MarginnoteLaw", name := "proposed", desc := "(LMarginnote;II[J)I" } : Jvm.MethodName) method_29_code (5 : Nat) (Option.some Jvm.ClassFile.FieldType.int) [((0 : Nat), (10 : Nat), (13 : Nat), (13 : Nat))]) ∈ GW := GW_4 0 (List.mem_of_getElem? (i := 154) rfl) rfl
theorem mw875 : (Jvm.Cond.methodLink "MarginnoteLaw" (100 : Nat) ({ cls := "Marginnote", name := "proposed", desc := "(II)I" } : Jvm.MethodName)) ∈ GW := GW_4 0 (List.mem_of_getElem? (i := 155) rfl) rfl
theorem mw876 : (Jvm.Cond.instanceMethod ({ cls := "Marginnote", name := "proposed", desc := "(II)I" } : Jvm.MethodName)) ∈ GW := GW_4 0 (List.mem_of_getElem? (i := 156) rfl) rfl
theorem mw877 : (Jvm.Cond.selects "Marginnote" ({ cls := "Marginnote", name := "proposed", desc := "(II)I" } : Jvm.MethodName) ({ cls := "Marginnote", name := "proposed", desc := "(II)I" } : Jvm.MethodName)) ∈ GW := GW_4 0 (List.mem_of_getElem? (i := 157) rfl) rfl
theorem mw878 : (Jvm.Cond.code ({ cls := "Marginnote", name := "proposed", desc := "(II)I" } : Jvm.MethodName) prog_1_method_28_code (4 : Nat) (Option.some Jvm.ClassFile.FieldType.int)) ∈ GW := GW_4 0 (List.mem_of_getElem? (i := 158) rfl) rfl
theorem mw879 : (Jvm.Cond.methodLink "Marginnote" (282 : Nat) ({ cls := "Marginnote$Paper", name := "proposalsFor", desc := "(I)I" } : Jvm.MethodName)) ∈ GW := GW_4 0 (List.mem_of_getElem? (i := 159) rfl) rfl
theorem mw880 : (Jvm.Cond.instanceMethod ({ cls := "Marginnote$Paper", name := "proposalsFor", desc := "(I)I" } : Jvm.MethodName)) ∈ GW := GW_4 0 (List.mem_of_getElem? (i := 160) rfl) rfl
theorem mw881 : (Jvm.Cond.selects "Marginnote$Paper" ({ cls := "Marginnote$Paper", name := "proposalsFor", desc := "(I)I" } : Jvm.MethodName) ({ cls := "Marginnote$Paper", name := "proposalsFor", desc := "(I)I" } : Jvm.MethodName)) ∈ GW := GW_4 0 (List.mem_of_getElem? (i := 161) rfl) rfl
theorem mw882 : (Jvm.Cond.code ({ cls := "Marginnote$Paper", name := "proposalsFor", desc := "(I)I" } : Jvm.MethodName) prog_5_method_21_code (5 : Nat) (Option.some Jvm.ClassFile.FieldType.int)) ∈ GW := GW_4 0 (List.mem_of_getElem? (i := 162) rfl) rfl
theorem mw883 : (Jvm.Cond.methodLink "MarginnoteLaw" (247 : Nat) ({ cls := "MarginnoteLaw", name := "open", desc := "(LMarginnote;I[J)I" } : Jvm.MethodName)) ∈ GW := GW_4 0 (List.mem_of_getElem? (i := 163) rfl) rfl
theorem mw884 : (Jvm.Cond.static ({ cls := "MarginnoteLaw", name := "open", desc := "(LMarginnote;I[J)I" } : Jvm.MethodName)) ∈ GW := GW_4 0 (List.mem_of_getElem? (i := 164) rfl) rfl
theorem mw885 : (Jvm.Cond.codeWith ({ cls := "MarginnoteLaw", name := "open", desc := "(LMarginnote;I[J)I" } : Jvm.MethodName) method_30_code (4 : Nat) (Option.some Jvm.ClassFile.FieldType.int) [((0 : Nat), (9 : Nat), (12 : Nat), (13 : Nat))]) ∈ GW := GW_4 0 (List.mem_of_getElem? (i := 165) rfl) rfl
theorem mw886 : (Jvm.Cond.methodLink "MarginnoteLaw" (103 : Nat) ({ cls := "Marginnote", name := "open", desc := "(I)I" } : Jvm.MethodName)) ∈ GW := GW_4 0 (List.mem_of_getElem? (i := 166) rfl) rfl
theorem mw887 : (Jvm.Cond.instanceMethod ({ cls := "Marginnote", name := "open", desc := "(I)I" } : Jvm.MethodName)) ∈ GW := GW_4 0 (List.mem_of_getElem? (i := 167) rfl) rfl
theorem mw888 : (Jvm.Cond.selects "Marginnote" ({ cls := "Marginnote", name := "open", desc := "(I)I" } : Jvm.MethodName) ({ cls := "Marginnote", name := "open", desc := "(I)I" } : Jvm.MethodName)) ∈ GW := GW_4 0 (List.mem_of_getElem? (i := 168) rfl) rfl
theorem mw889 : (Jvm.Cond.code ({ cls := "Marginnote", name := "open", desc := "(I)I" } : Jvm.MethodName) prog_1_method_29_code (2 : Nat) (Option.some Jvm.ClassFile.FieldType.int)) ∈ GW := GW_4 0 (List.mem_of_getElem? (i := 169) rfl) rfl
theorem mw890 : (Jvm.Cond.methodLink "Marginnote" (285 : Nat) ({ cls := "Marginnote$Paper", name := "countOpen", desc := "()I" } : Jvm.MethodName)) ∈ GW := GW_4 0 (List.mem_of_getElem? (i := 170) rfl) rfl
theorem mw891 : (Jvm.Cond.instanceMethod ({ cls := "Marginnote$Paper", name := "countOpen", desc := "()I" } : Jvm.MethodName)) ∈ GW := GW_4 0 (List.mem_of_getElem? (i := 171) rfl) rfl
theorem mw892 : (Jvm.Cond.selects "Marginnote$Paper" ({ cls := "Marginnote$Paper", name := "countOpen", desc := "()I" } : Jvm.MethodName) ({ cls := "Marginnote$Paper", name := "countOpen", desc := "()I" } : Jvm.MethodName)) ∈ GW := GW_4 0 (List.mem_of_getElem? (i := 172) rfl) rfl
theorem mw893 : (Jvm.Cond.code ({ cls := "Marginnote$Paper", name := "countOpen", desc := "()I" } : Jvm.MethodName) prog_5_method_20_code (3 : Nat) (Option.some Jvm.ClassFile.FieldType.int)) ∈ GW := GW_4 0 (List.mem_of_getElem? (i := 173) rfl) rfl
theorem mw894 : (Jvm.Cond.methodLink "MarginnoteLaw" (250 : Nat) ({ cls := "MarginnoteLaw", name := "isMarked", desc := "(LMarginnote;III[J)I" } : Jvm.MethodName)) ∈ GW := GW_4 0 (List.mem_of_getElem? (i := 174) rfl) rfl
theorem mw895 : (Jvm.Cond.static ({ cls := "MarginnoteLaw", name := "isMarked", desc := "(LMarginnote;III[J)I" } : Jvm.MethodName)) ∈ GW := GW_4 0 (List.mem_of_getElem? (i := 175) rfl) rfl
theorem mw896 : (Jvm.Cond.codeWith ({ cls := "MarginnoteLaw", name := "isMarked", desc := "(LMarginnote;III[J)I" } : Jvm.MethodName) method_31_code (6 : Nat) (Option.some Jvm.ClassFile.FieldType.int) [((0 : Nat), (19 : Nat), (22 : Nat), (13 : Nat)), ((0 : Nat), (19 : Nat), (26 : Nat), (15 : Nat))]) ∈ GW := GW_4 0 (List.mem_of_getElem? (i := 176) rfl) rfl
theorem mw897 : (Jvm.Cond.methodLink "MarginnoteLaw" (106 : Nat) ({ cls := "Marginnote", name := "isMarked", desc := "(III)Z" } : Jvm.MethodName)) ∈ GW := GW_4 0 (List.mem_of_getElem? (i := 177) rfl) rfl
theorem mw898 : (Jvm.Cond.instanceMethod ({ cls := "Marginnote", name := "isMarked", desc := "(III)Z" } : Jvm.MethodName)) ∈ GW := GW_4 0 (List.mem_of_getElem? (i := 178) rfl) rfl
theorem mw899 : (Jvm.Cond.selects "Marginnote" ({ cls := "Marginnote", name := "isMarked", desc := "(III)Z" } : Jvm.MethodName) ({ cls := "Marginnote", name := "isMarked", desc := "(III)Z" } : Jvm.MethodName)) ∈ GW := GW_4 0 (List.mem_of_getElem? (i := 179) rfl) rfl
theorem mw900 : (Jvm.Cond.code ({ cls := "Marginnote", name := "isMarked", desc := "(III)Z" } : Jvm.MethodName) prog_1_method_30_code (6 : Nat) (Option.some Jvm.ClassFile.FieldType.boolean)) ∈ GW := GW_4 0 (List.mem_of_getElem? (i := 180) rfl) rfl
theorem mw901 : (Jvm.Cond.methodLink "Marginnote" (288 : Nat) ({ cls := "Marginnote$Paper", name := "hasBit", desc := "(II)Z" } : Jvm.MethodName)) ∈ GW := GW_4 0 (List.mem_of_getElem? (i := 181) rfl) rfl
theorem mw902 : (Jvm.Cond.instanceMethod ({ cls := "Marginnote$Paper", name := "hasBit", desc := "(II)Z" } : Jvm.MethodName)) ∈ GW := GW_4 0 (List.mem_of_getElem? (i := 182) rfl) rfl
theorem mw903 : (Jvm.Cond.selects "Marginnote$Paper" ({ cls := "Marginnote$Paper", name := "hasBit", desc := "(II)Z" } : Jvm.MethodName) ({ cls := "Marginnote$Paper", name := "hasBit", desc := "(II)Z" } : Jvm.MethodName)) ∈ GW := GW_4 0 (List.mem_of_getElem? (i := 183) rfl) rfl
theorem mw904 : (Jvm.Cond.code ({ cls := "Marginnote$Paper", name := "hasBit", desc := "(II)Z" } : Jvm.MethodName) prog_5_method_27_code (3 : Nat) (Option.some Jvm.ClassFile.FieldType.boolean)) ∈ GW := GW_4 0 (List.mem_of_getElem? (i := 184) rfl) rfl
theorem mw905 : (Jvm.Cond.methodLink "MarginnoteLaw" (253 : Nat) ({ cls := "MarginnoteLaw", name := "covered", desc := "(LMarginnote;II[J)I" } : Jvm.MethodName)) ∈ GW := GW_4 0 (List.mem_of_getElem? (i := 185) rfl) rfl
theorem mw906 : (Jvm.Cond.static ({ cls := "MarginnoteLaw", name := "covered", desc := "(LMarginnote;II[J)I" } : Jvm.MethodName)) ∈ GW := GW_4 0 (List.mem_of_getElem? (i := 186) rfl) rfl
theorem mw907 : (Jvm.Cond.codeWith ({ cls := "MarginnoteLaw", name := "covered", desc := "(LMarginnote;II[J)I" } : Jvm.MethodName) method_32_code (5 : Nat) (Option.some Jvm.ClassFile.FieldType.int) [((0 : Nat), (10 : Nat), (13 : Nat), (13 : Nat))]) ∈ GW := GW_4 0 (List.mem_of_getElem? (i := 187) rfl) rfl
theorem mw908 : (Jvm.Cond.methodLink "MarginnoteLaw" (110 : Nat) ({ cls := "Marginnote", name := "covered", desc := "(II)I" } : Jvm.MethodName)) ∈ GW := GW_4 0 (List.mem_of_getElem? (i := 188) rfl) rfl
theorem mw909 : (Jvm.Cond.instanceMethod ({ cls := "Marginnote", name := "covered", desc := "(II)I" } : Jvm.MethodName)) ∈ GW := GW_4 0 (List.mem_of_getElem? (i := 189) rfl) rfl
theorem mw910 : (Jvm.Cond.selects "Marginnote" ({ cls := "Marginnote", name := "covered", desc := "(II)I" } : Jvm.MethodName) ({ cls := "Marginnote", name := "covered", desc := "(II)I" } : Jvm.MethodName)) ∈ GW := GW_4 0 (List.mem_of_getElem? (i := 190) rfl) rfl
theorem mw911 : (Jvm.Cond.code ({ cls := "Marginnote", name := "covered", desc := "(II)I" } : Jvm.MethodName) prog_1_method_31_code (4 : Nat) (Option.some Jvm.ClassFile.FieldType.int)) ∈ GW := GW_4 0 (List.mem_of_getElem? (i := 191) rfl) rfl
theorem mw912 : (Jvm.Cond.methodLink "Marginnote" (294 : Nat) ({ cls := "Marginnote", name := "commentBit", desc := "(I)I" } : Jvm.MethodName)) ∈ GW := GW_4 0 (List.mem_of_getElem? (i := 192) rfl) rfl
theorem mw913 : (Jvm.Cond.methodLink "Marginnote" (297 : Nat) ({ cls := "Marginnote$Paper", name := "countSeenWith", desc := "(I)I" } : Jvm.MethodName)) ∈ GW := GW_4 0 (List.mem_of_getElem? (i := 193) rfl) rfl
theorem mw914 : (Jvm.Cond.instanceMethod ({ cls := "Marginnote$Paper", name := "countSeenWith", desc := "(I)I" } : Jvm.MethodName)) ∈ GW := GW_4 0 (List.mem_of_getElem? (i := 194) rfl) rfl
theorem mw915 : (Jvm.Cond.selects "Marginnote$Paper" ({ cls := "Marginnote$Paper", name := "countSeenWith", desc := "(I)I" } : Jvm.MethodName) ({ cls := "Marginnote$Paper", name := "countSeenWith", desc := "(I)I" } : Jvm.MethodName)) ∈ GW := GW_4 0 (List.mem_of_getElem? (i := 195) rfl) rfl
theorem mw916 : (Jvm.Cond.code ({ cls := "Marginnote$Paper", name := "countSeenWith", desc := "(I)I" } : Jvm.MethodName) prog_5_method_37_code (4 : Nat) (Option.some Jvm.ClassFile.FieldType.int)) ∈ GW := GW_4 0 (List.mem_of_getElem? (i := 196) rfl) rfl
theorem mw917 : (Jvm.Cond.methodLink "Marginnote$Paper" (182 : Nat) ({ cls := "Marginnote$Paper", name := "hasBit", desc := "(II)Z" } : Jvm.MethodName)) ∈ GW := GW_4 0 (List.mem_of_getElem? (i := 197) rfl) rfl
theorem mw918 : (Jvm.Cond.methodLink "MarginnoteLaw" (256 : Nat) ({ cls := "MarginnoteLaw", name := "blocks", desc := "(LMarginnote;I[J)I" } : Jvm.MethodName)) ∈ GW := GW_4 0 (List.mem_of_getElem? (i := 198) rfl) rfl
theorem mw919 : (Jvm.Cond.static ({ cls := "MarginnoteLaw", name := "blocks", desc := "(LMarginnote;I[J)I" } : Jvm.MethodName)) ∈ GW := GW_4 0 (List.mem_of_getElem? (i := 199) rfl) rfl
theorem mw920 : (Jvm.Cond.codeWith ({ cls := "MarginnoteLaw", name := "blocks", desc := "(LMarginnote;I[J)I" } : Jvm.MethodName) method_33_code (4 : Nat) (Option.some Jvm.ClassFile.FieldType.int) [((0 : Nat), (9 : Nat), (12 : Nat), (13 : Nat))]) ∈ GW := GW_4 0 (List.mem_of_getElem? (i := 200) rfl) rfl
theorem mw921 : (Jvm.Cond.methodLink "MarginnoteLaw" (113 : Nat) ({ cls := "Marginnote", name := "blocks", desc := "(I)I" } : Jvm.MethodName)) ∈ GW := GW_4 0 (List.mem_of_getElem? (i := 201) rfl) rfl
theorem mw922 : (Jvm.Cond.instanceMethod ({ cls := "Marginnote", name := "blocks", desc := "(I)I" } : Jvm.MethodName)) ∈ GW := GW_4 0 (List.mem_of_getElem? (i := 202) rfl) rfl
theorem mw923 : (Jvm.Cond.selects "Marginnote" ({ cls := "Marginnote", name := "blocks", desc := "(I)I" } : Jvm.MethodName) ({ cls := "Marginnote", name := "blocks", desc := "(I)I" } : Jvm.MethodName)) ∈ GW := GW_4 0 (List.mem_of_getElem? (i := 203) rfl) rfl
theorem mw924 : (Jvm.Cond.code ({ cls := "Marginnote", name := "blocks", desc := "(I)I" } : Jvm.MethodName) prog_1_method_32_code (2 : Nat) (Option.some Jvm.ClassFile.FieldType.int)) ∈ GW := GW_4 0 (List.mem_of_getElem? (i := 204) rfl) rfl
theorem mw925 : (Jvm.Cond.methodLink "Marginnote" (300 : Nat) ({ cls := "Marginnote$Paper", name := "countBlocks", desc := "()I" } : Jvm.MethodName)) ∈ GW := GW_4 0 (List.mem_of_getElem? (i := 205) rfl) rfl
theorem mw926 : (Jvm.Cond.instanceMethod ({ cls := "Marginnote$Paper", name := "countBlocks", desc := "()I" } : Jvm.MethodName)) ∈ GW := GW_4 0 (List.mem_of_getElem? (i := 206) rfl) rfl
theorem mw927 : (Jvm.Cond.selects "Marginnote$Paper" ({ cls := "Marginnote$Paper", name := "countBlocks", desc := "()I" } : Jvm.MethodName) ({ cls := "Marginnote$Paper", name := "countBlocks", desc := "()I" } : Jvm.MethodName)) ∈ GW := GW_4 0 (List.mem_of_getElem? (i := 207) rfl) rfl
theorem mw928 : (Jvm.Cond.code ({ cls := "Marginnote$Paper", name := "countBlocks", desc := "()I" } : Jvm.MethodName) prog_5_method_41_code (3 : Nat) (Option.some Jvm.ClassFile.FieldType.int)) ∈ GW := GW_4 0 (List.mem_of_getElem? (i := 208) rfl) rfl
theorem mw929 : (Jvm.Cond.methodLink "MarginnoteLaw" (259 : Nat) ({ cls := "MarginnoteLaw", name := "kind", desc := "(LMarginnote;II[J)I" } : Jvm.MethodName)) ∈ GW := GW_4 0 (List.mem_of_getElem? (i := 209) rfl) rfl
theorem mw930 : (Jvm.Cond.static ({ cls := "MarginnoteLaw", name := "kind", desc := "(LMarginnote;II[J)I" } : Jvm.MethodName)) ∈ GW := GW_4 0 (List.mem_of_getElem? (i := 210) rfl) rfl
theorem mw931 : (Jvm.Cond.codeWith ({ cls := "MarginnoteLaw", name := "kind", desc := "(LMarginnote;II[J)I" } : Jvm.MethodName) method_34_code (5 : Nat) (Option.some Jvm.ClassFile.FieldType.int) [((0 : Nat), (10 : Nat), (13 : Nat), (13 : Nat))]) ∈ GW := GW_4 0 (List.mem_of_getElem? (i := 211) rfl) rfl
theorem mw932 : (Jvm.Cond.methodLink "MarginnoteLaw" (116 : Nat) ({ cls := "Marginnote", name := "kind", desc := "(II)I" } : Jvm.MethodName)) ∈ GW := GW_4 0 (List.mem_of_getElem? (i := 212) rfl) rfl
theorem mw933 : (Jvm.Cond.instanceMethod ({ cls := "Marginnote", name := "kind", desc := "(II)I" } : Jvm.MethodName)) ∈ GW := GW_4 0 (List.mem_of_getElem? (i := 213) rfl) rfl
theorem mw934 : (Jvm.Cond.selects "Marginnote" ({ cls := "Marginnote", name := "kind", desc := "(II)I" } : Jvm.MethodName) ({ cls := "Marginnote", name := "kind", desc := "(II)I" } : Jvm.MethodName)) ∈ GW := GW_4 0 (List.mem_of_getElem? (i := 214) rfl) rfl
theorem mw935 : (Jvm.Cond.code ({ cls := "Marginnote", name := "kind", desc := "(II)I" } : Jvm.MethodName) prog_1_method_33_code (4 : Nat) (Option.some Jvm.ClassFile.FieldType.int)) ∈ GW := GW_4 0 (List.mem_of_getElem? (i := 215) rfl) rfl
theorem mw936 : (Jvm.Cond.methodLink "Marginnote" (303 : Nat) ({ cls := "Marginnote$Paper", name := "kindOf", desc := "(I)I" } : Jvm.MethodName)) ∈ GW := GW_4 0 (List.mem_of_getElem? (i := 216) rfl) rfl
theorem mw937 : (Jvm.Cond.instanceMethod ({ cls := "Marginnote$Paper", name := "kindOf", desc := "(I)I" } : Jvm.MethodName)) ∈ GW := GW_4 0 (List.mem_of_getElem? (i := 217) rfl) rfl
theorem mw938 : (Jvm.Cond.selects "Marginnote$Paper" ({ cls := "Marginnote$Paper", name := "kindOf", desc := "(I)I" } : Jvm.MethodName) ({ cls := "Marginnote$Paper", name := "kindOf", desc := "(I)I" } : Jvm.MethodName)) ∈ GW := GW_4 0 (List.mem_of_getElem? (i := 218) rfl) rfl
theorem mw939 : (Jvm.Cond.code ({ cls := "Marginnote$Paper", name := "kindOf", desc := "(I)I" } : Jvm.MethodName) prog_5_method_43_code (2 : Nat) (Option.some Jvm.ClassFile.FieldType.int)) ∈ GW := GW_4 0 (List.mem_of_getElem? (i := 219) rfl) rfl
theorem mw940 : (Jvm.Cond.methodLink "MarginnoteLaw" (262 : Nat) ({ cls := "MarginnoteLaw", name := "depth", desc := "(LMarginnote;II[J)I" } : Jvm.MethodName)) ∈ GW := GW_4 0 (List.mem_of_getElem? (i := 220) rfl) rfl
theorem mw941 : (Jvm.Cond.static ({ cls := "MarginnoteLaw", name := "depth", desc := "(LMarginnote;II[J)I" } : Jvm.MethodName)) ∈ GW := GW_4 0 (List.mem_of_getElem? (i := 221) rfl) rfl
theorem mw942 : (Jvm.Cond.codeWith ({ cls := "MarginnoteLaw", name := "depth", desc := "(LMarginnote;II[J)I" } : Jvm.MethodName) method_35_code (5 : Nat) (Option.some Jvm.ClassFile.FieldType.int) [((0 : Nat), (10 : Nat), (13 : Nat), (13 : Nat))]) ∈ GW := GW_4 0 (List.mem_of_getElem? (i := 222) rfl) rfl
theorem mw943 : (Jvm.Cond.methodLink "MarginnoteLaw" (119 : Nat) ({ cls := "Marginnote", name := "depth", desc := "(II)I" } : Jvm.MethodName)) ∈ GW := GW_4 0 (List.mem_of_getElem? (i := 223) rfl) rfl
theorem mw944 : (Jvm.Cond.instanceMethod ({ cls := "Marginnote", name := "depth", desc := "(II)I" } : Jvm.MethodName)) ∈ GW := GW_4 0 (List.mem_of_getElem? (i := 224) rfl) rfl
theorem mw945 : (Jvm.Cond.selects "Marginnote" ({ cls := "Marginnote", name := "depth", desc := "(II)I" } : Jvm.MethodName) ({ cls := "Marginnote", name := "depth", desc := "(II)I" } : Jvm.MethodName)) ∈ GW := GW_4 0 (List.mem_of_getElem? (i := 225) rfl) rfl
theorem mw946 : (Jvm.Cond.code ({ cls := "Marginnote", name := "depth", desc := "(II)I" } : Jvm.MethodName) prog_1_method_34_code (4 : Nat) (Option.some Jvm.ClassFile.FieldType.int)) ∈ GW := GW_4 0 (List.mem_of_getElem? (i := 226) rfl) rfl
theorem mw947 : (Jvm.Cond.methodLink "Marginnote" (304 : Nat) ({ cls := "Marginnote$Paper", name := "depthOf", desc := "(I)I" } : Jvm.MethodName)) ∈ GW := GW_4 0 (List.mem_of_getElem? (i := 227) rfl) rfl
theorem mw948 : (Jvm.Cond.instanceMethod ({ cls := "Marginnote$Paper", name := "depthOf", desc := "(I)I" } : Jvm.MethodName)) ∈ GW := GW_4 0 (List.mem_of_getElem? (i := 228) rfl) rfl
theorem mw949 : (Jvm.Cond.selects "Marginnote$Paper" ({ cls := "Marginnote$Paper", name := "depthOf", desc := "(I)I" } : Jvm.MethodName) ({ cls := "Marginnote$Paper", name := "depthOf", desc := "(I)I" } : Jvm.MethodName)) ∈ GW := GW_4 0 (List.mem_of_getElem? (i := 229) rfl) rfl
theorem mw950 : (Jvm.Cond.code ({ cls := "Marginnote$Paper", name := "depthOf", desc := "(I)I" } : Jvm.MethodName) prog_5_method_44_code (5 : Nat) (Option.some Jvm.ClassFile.FieldType.int)) ∈ GW := GW_4 0 (List.mem_of_getElem? (i := 230) rfl) rfl
theorem mw951 : (Jvm.Cond.methodLink "MarginnoteLaw" (265 : Nat) ({ cls := "MarginnoteLaw", name := "level", desc := "(LMarginnote;II[J)I" } : Jvm.MethodName)) ∈ GW := GW_4 0 (List.mem_of_getElem? (i := 231) rfl) rfl
theorem mw952 : (Jvm.Cond.static ({ cls := "MarginnoteLaw", name := "level", desc := "(LMarginnote;II[J)I" } : Jvm.MethodName)) ∈ GW := GW_4 0 (List.mem_of_getElem? (i := 232) rfl) rfl
theorem mw953 : (Jvm.Cond.codeWith ({ cls := "MarginnoteLaw", name := "level", desc := "(LMarginnote;II[J)I" } : Jvm.MethodName) method_36_code (5 : Nat) (Option.some Jvm.ClassFile.FieldType.int) [((0 : Nat), (10 : Nat), (13 : Nat), (13 : Nat))]) ∈ GW := GW_4 0 (List.mem_of_getElem? (i := 233) rfl) rfl
theorem mw954 : (Jvm.Cond.methodLink "MarginnoteLaw" (122 : Nat) ({ cls := "Marginnote", name := "level", desc := "(II)I" } : Jvm.MethodName)) ∈ GW := GW_4 0 (List.mem_of_getElem? (i := 234) rfl) rfl
theorem mw955 : (Jvm.Cond.instanceMethod ({ cls := "Marginnote", name := "level", desc := "(II)I" } : Jvm.MethodName)) ∈ GW := GW_4 0 (List.mem_of_getElem? (i := 235) rfl) rfl
theorem mw956 : (Jvm.Cond.selects "Marginnote" ({ cls := "Marginnote", name := "level", desc := "(II)I" } : Jvm.MethodName) ({ cls := "Marginnote", name := "level", desc := "(II)I" } : Jvm.MethodName)) ∈ GW := GW_4 0 (List.mem_of_getElem? (i := 236) rfl) rfl
theorem mw957 : (Jvm.Cond.code ({ cls := "Marginnote", name := "level", desc := "(II)I" } : Jvm.MethodName) prog_1_method_35_code (4 : Nat) (Option.some Jvm.ClassFile.FieldType.int)) ∈ GW := GW_4 0 (List.mem_of_getElem? (i := 237) rfl) rfl
theorem mw958 : (Jvm.Cond.methodLink "MarginnoteLaw" (268 : Nat) ({ cls := "MarginnoteLaw", name := "cursor", desc := "(LMarginnote;I[J)I" } : Jvm.MethodName)) ∈ GW := GW_4 0 (List.mem_of_getElem? (i := 238) rfl) rfl
theorem mw959 : (Jvm.Cond.static ({ cls := "MarginnoteLaw", name := "cursor", desc := "(LMarginnote;I[J)I" } : Jvm.MethodName)) ∈ GW := GW_4 0 (List.mem_of_getElem? (i := 239) rfl) rfl
theorem mw960 : (Jvm.Cond.codeWith ({ cls := "MarginnoteLaw", name := "cursor", desc := "(LMarginnote;I[J)I" } : Jvm.MethodName) method_37_code (4 : Nat) (Option.some Jvm.ClassFile.FieldType.int) [((0 : Nat), (9 : Nat), (12 : Nat), (13 : Nat))]) ∈ GW := GW_5 0 (List.mem_of_getElem? (i := 0) rfl) rfl
theorem mw961 : (Jvm.Cond.methodLink "MarginnoteLaw" (125 : Nat) ({ cls := "Marginnote", name := "cursor", desc := "(I)I" } : Jvm.MethodName)) ∈ GW := GW_5 0 (List.mem_of_getElem? (i := 1) rfl) rfl
theorem mw962 : (Jvm.Cond.instanceMethod ({ cls := "Marginnote", name := "cursor", desc := "(I)I" } : Jvm.MethodName)) ∈ GW := GW_5 0 (List.mem_of_getElem? (i := 2) rfl) rfl
theorem mw963 : (Jvm.Cond.selects "Marginnote" ({ cls := "Marginnote", name := "cursor", desc := "(I)I" } : Jvm.MethodName) ({ cls := "Marginnote", name := "cursor", desc := "(I)I" } : Jvm.MethodName)) ∈ GW := GW_5 0 (List.mem_of_getElem? (i := 3) rfl) rfl
theorem mw964 : (Jvm.Cond.code ({ cls := "Marginnote", name := "cursor", desc := "(I)I" } : Jvm.MethodName) prog_1_method_36_code (3 : Nat) (Option.some Jvm.ClassFile.FieldType.int)) ∈ GW := GW_5 0 (List.mem_of_getElem? (i := 4) rfl) rfl
theorem mw965 : (Jvm.Cond.methodLink "MarginnoteLaw" (271 : Nat) ({ cls := "MarginnoteLaw", name := "tail", desc := "(LMarginnote;I[J)I" } : Jvm.MethodName)) ∈ GW := GW_5 0 (List.mem_of_getElem? (i := 5) rfl) rfl
theorem mw966 : (Jvm.Cond.static ({ cls := "MarginnoteLaw", name := "tail", desc := "(LMarginnote;I[J)I" } : Jvm.MethodName)) ∈ GW := GW_5 0 (List.mem_of_getElem? (i := 6) rfl) rfl
theorem mw967 : (Jvm.Cond.codeWith ({ cls := "MarginnoteLaw", name := "tail", desc := "(LMarginnote;I[J)I" } : Jvm.MethodName) method_38_code (4 : Nat) (Option.some Jvm.ClassFile.FieldType.int) [((0 : Nat), (9 : Nat), (12 : Nat), (13 : Nat))]) ∈ GW := GW_5 0 (List.mem_of_getElem? (i := 7) rfl) rfl
theorem mw968 : (Jvm.Cond.methodLink "MarginnoteLaw" (128 : Nat) ({ cls := "Marginnote", name := "tail", desc := "(I)I" } : Jvm.MethodName)) ∈ GW := GW_5 0 (List.mem_of_getElem? (i := 8) rfl) rfl
theorem mw969 : (Jvm.Cond.instanceMethod ({ cls := "Marginnote", name := "tail", desc := "(I)I" } : Jvm.MethodName)) ∈ GW := GW_5 0 (List.mem_of_getElem? (i := 9) rfl) rfl
theorem mw970 : (Jvm.Cond.selects "Marginnote" ({ cls := "Marginnote", name := "tail", desc := "(I)I" } : Jvm.MethodName) ({ cls := "Marginnote", name := "tail", desc := "(I)I" } : Jvm.MethodName)) ∈ GW := GW_5 0 (List.mem_of_getElem? (i := 10) rfl) rfl
theorem mw971 : (Jvm.Cond.code ({ cls := "Marginnote", name := "tail", desc := "(I)I" } : Jvm.MethodName) prog_1_method_37_code (3 : Nat) (Option.some Jvm.ClassFile.FieldType.int)) ∈ GW := GW_5 0 (List.mem_of_getElem? (i := 11) rfl) rfl
theorem mw972 : (Jvm.Cond.methodLink "MarginnoteLaw" (274 : Nat) ({ cls := "MarginnoteLaw", name := "graves", desc := "(LMarginnote;I[J)I" } : Jvm.MethodName)) ∈ GW := GW_5 0 (List.mem_of_getElem? (i := 12) rfl) rfl
theorem mw973 : (Jvm.Cond.static ({ cls := "MarginnoteLaw", name := "graves", desc := "(LMarginnote;I[J)I" } : Jvm.MethodName)) ∈ GW := GW_5 0 (List.mem_of_getElem? (i := 13) rfl) rfl
theorem mw974 : (Jvm.Cond.codeWith ({ cls := "MarginnoteLaw", name := "graves", desc := "(LMarginnote;I[J)I" } : Jvm.MethodName) method_39_code (4 : Nat) (Option.some Jvm.ClassFile.FieldType.int) [((0 : Nat), (9 : Nat), (12 : Nat), (13 : Nat))]) ∈ GW := GW_5 0 (List.mem_of_getElem? (i := 14) rfl) rfl
theorem mw975 : (Jvm.Cond.methodLink "MarginnoteLaw" (131 : Nat) ({ cls := "Marginnote", name := "graves", desc := "(I)I" } : Jvm.MethodName)) ∈ GW := GW_5 0 (List.mem_of_getElem? (i := 15) rfl) rfl
theorem mw976 : (Jvm.Cond.instanceMethod ({ cls := "Marginnote", name := "graves", desc := "(I)I" } : Jvm.MethodName)) ∈ GW := GW_5 0 (List.mem_of_getElem? (i := 16) rfl) rfl
theorem mw977 : (Jvm.Cond.selects "Marginnote" ({ cls := "Marginnote", name := "graves", desc := "(I)I" } : Jvm.MethodName) ({ cls := "Marginnote", name := "graves", desc := "(I)I" } : Jvm.MethodName)) ∈ GW := GW_5 0 (List.mem_of_getElem? (i := 17) rfl) rfl
theorem mw978 : (Jvm.Cond.code ({ cls := "Marginnote", name := "graves", desc := "(I)I" } : Jvm.MethodName) prog_1_method_38_code (2 : Nat) (Option.some Jvm.ClassFile.FieldType.int)) ∈ GW := GW_5 0 (List.mem_of_getElem? (i := 18) rfl) rfl
theorem mw979 : (Jvm.Cond.methodLink "Marginnote" (310 : Nat) ({ cls := "Marginnote$Paper", name := "countGraves", desc := "()I" } : Jvm.MethodName)) ∈ GW := GW_5 0 (List.mem_of_getElem? (i := 19) rfl) rfl
theorem mw980 : (Jvm.Cond.instanceMethod ({ cls := "Marginnote$Paper", name := "countGraves", desc := "()I" } : Jvm.MethodName)) ∈ GW := GW_5 0 (List.mem_of_getElem? (i := 20) rfl) rfl
theorem mw981 : (Jvm.Cond.selects "Marginnote$Paper" ({ cls := "Marginnote$Paper", name := "countGraves", desc := "()I" } : Jvm.MethodName) ({ cls := "Marginnote$Paper", name := "countGraves", desc := "()I" } : Jvm.MethodName)) ∈ GW := GW_5 0 (List.mem_of_getElem? (i := 21) rfl) rfl
theorem mw982 : (Jvm.Cond.code ({ cls := "Marginnote$Paper", name := "countGraves", desc := "()I" } : Jvm.MethodName) prog_5_method_36_code (1 : Nat) (Option.some Jvm.ClassFile.FieldType.int)) ∈ GW := GW_5 0 (List.mem_of_getElem? (i := 22) rfl) rfl
theorem mw983 : (Jvm.Cond.methodLink "Marginnote$Paper" (178 : Nat) ({ cls := "Marginnote$Paper", name := "countSeen", desc := "()I" } : Jvm.MethodName)) ∈ GW := GW_5 0 (List.mem_of_getElem? (i := 23) rfl) rfl
theorem mw984 : (Jvm.Cond.methodLink "MarginnoteLaw" (277 : Nat) ({ cls := "MarginnoteLaw", name := "buried", desc := "(LMarginnote;I[J)I" } : Jvm.MethodName)) ∈ GW := GW_5 0 (List.mem_of_getElem? (i := 24) rfl) rfl
theorem mw985 : (Jvm.Cond.static ({ cls := "MarginnoteLaw", name := "buried", desc := "(LMarginnote;I[J)I" } : Jvm.MethodName)) ∈ GW := GW_5 0 (List.mem_of_getElem? (i := 25) rfl) rfl
theorem mw986 : (Jvm.Cond.codeWith ({ cls := "MarginnoteLaw", name := "buried", desc := "(LMarginnote;I[J)I" } : Jvm.MethodName) method_40_code (4 : Nat) (Option.some Jvm.ClassFile.FieldType.int) [((0 : Nat), (9 : Nat), (12 : Nat), (13 : Nat))]) ∈ GW := GW_5 0 (List.mem_of_getElem? (i := 26) rfl) rfl
theorem mw987 : (Jvm.Cond.methodLink "MarginnoteLaw" (134 : Nat) ({ cls := "Marginnote", name := "buried", desc := "(I)I" } : Jvm.MethodName)) ∈ GW := GW_5 0 (List.mem_of_getElem? (i := 27) rfl) rfl
theorem mw988 : (Jvm.Cond.instanceMethod ({ cls := "Marginnote", name := "buried", desc := "(I)I" } : Jvm.MethodName)) ∈ GW := GW_5 0 (List.mem_of_getElem? (i := 28) rfl) rfl
theorem mw989 : (Jvm.Cond.selects "Marginnote" ({ cls := "Marginnote", name := "buried", desc := "(I)I" } : Jvm.MethodName) ({ cls := "Marginnote", name := "buried", desc := "(I)I" } : Jvm.MethodName)) ∈ GW := GW_5 0 (List.mem_of_getElem? (i := 29) rfl) rfl
theorem mw990 : (Jvm.Cond.code ({ cls := "Marginnote", name := "buried", desc := "(I)I" } : Jvm.MethodName) prog_1_method_39_code (6 : Nat) (Option.some Jvm.ClassFile.FieldType.int)) ∈ GW := GW_5 0 (List.mem_of_getElem? (i := 30) rfl) rfl
theorem mw991 : (Jvm.Cond.methodLink "Marginnote" (313 : Nat) ({ cls := "Marginnote", name := "collectHadByAll", desc := "(LMarginnote$Site;)V" } : Jvm.MethodName)) ∈ GW := GW_5 0 (List.mem_of_getElem? (i := 31) rfl) rfl
theorem mw993 : (Jvm.Cond.instanceMethod ({ cls := "Marginnote", name := "collectHadByAll", desc := "(LMarginnote$Site;)V" } : Jvm.MethodName)) ∈ GW := GW_5 0 (List.mem_of_getElem? (i := 33) rfl) rfl
theorem mw994 : (Jvm.Cond.code ({ cls := "Marginnote", name := "collectHadByAll", desc := "(LMarginnote$Site;)V" } : Jvm.MethodName) prog_1_method_63_code (3 : Nat) (Option.none : Option Jvm.ClassFile.FieldType)) ∈ GW := GW_5 0 (List.mem_of_getElem? (i := 34) rfl) rfl
theorem mw995 : (Jvm.Cond.methodLink "Marginnote" (382 : Nat) ({ cls := "Marginnote$Site", name := "knownOf", desc := "(I)I" } : Jvm.MethodName)) ∈ GW := GW_5 0 (List.mem_of_getElem? (i := 35) rfl) rfl
theorem mw996 : (Jvm.Cond.methodLink "Marginnote" (385 : Nat) ({ cls := "Marginnote$Site", name := "countFirst", desc := "(I[I)V" } : Jvm.MethodName)) ∈ GW := GW_5 0 (List.mem_of_getElem? (i := 36) rfl) rfl
theorem mw997 : (Jvm.Cond.instanceMethod ({ cls := "Marginnote$Site", name := "countFirst", desc := "(I[I)V" } : Jvm.MethodName)) ∈ GW := GW_5 0 (List.mem_of_getElem? (i := 37) rfl) rfl
theorem mw998 : (Jvm.Cond.selects "Marginnote$Site" ({ cls := "Marginnote$Site", name := "countFirst", desc := "(I[I)V" } : Jvm.MethodName) ({ cls := "Marginnote$Site", name := "countFirst", desc := "(I[I)V" } : Jvm.MethodName)) ∈ GW := GW_5 0 (List.mem_of_getElem? (i := 38) rfl) rfl
theorem mw999 : (Jvm.Cond.code ({ cls := "Marginnote$Site", name := "countFirst", desc := "(I[I)V" } : Jvm.MethodName) prog_6_method_8_code (5 : Nat) (Option.none : Option Jvm.ClassFile.FieldType)) ∈ GW := GW_5 0 (List.mem_of_getElem? (i := 39) rfl) rfl
theorem mw1000 : (Jvm.Cond.methodLink "Marginnote" (389 : Nat) ({ cls := "Marginnote$ActSet", name := "clear", desc := "()V" } : Jvm.MethodName)) ∈ GW := GW_5 0 (List.mem_of_getElem? (i := 40) rfl) rfl
theorem mw1001 : (Jvm.Cond.instanceMethod ({ cls := "Marginnote$ActSet", name := "clear", desc := "()V" } : Jvm.MethodName)) ∈ GW := GW_5 0 (List.mem_of_getElem? (i := 41) rfl) rfl
theorem mw1002 : (Jvm.Cond.selects "Marginnote$ActSet" ({ cls := "Marginnote$ActSet", name := "clear", desc := "()V" } : Jvm.MethodName) ({ cls := "Marginnote$ActSet", name := "clear", desc := "()V" } : Jvm.MethodName)) ∈ GW := GW_5 0 (List.mem_of_getElem? (i := 42) rfl) rfl
theorem mw1003 : (Jvm.Cond.code ({ cls := "Marginnote$ActSet", name := "clear", desc := "()V" } : Jvm.MethodName) prog_2_method_5_code (2 : Nat) (Option.none : Option Jvm.ClassFile.FieldType)) ∈ GW := GW_5 0 (List.mem_of_getElem? (i := 43) rfl) rfl
theorem mw1004 : (Jvm.Cond.methodLink "Marginnote" (392 : Nat) ({ cls := "Marginnote$ActSet", name := "add", desc := "(I)V" } : Jvm.MethodName)) ∈ GW := GW_5 0 (List.mem_of_getElem? (i := 44) rfl) rfl
theorem mw1005 : (Jvm.Cond.methodLink "Marginnote" (317 : Nat) ({ cls := "Marginnote$Paper", name := "isGrave", desc := "(I)Z" } : Jvm.MethodName)) ∈ GW := GW_5 0 (List.mem_of_getElem? (i := 45) rfl) rfl
theorem mw1006 : (Jvm.Cond.instanceMethod ({ cls := "Marginnote$Paper", name := "isGrave", desc := "(I)Z" } : Jvm.MethodName)) ∈ GW := GW_5 0 (List.mem_of_getElem? (i := 46) rfl) rfl
theorem mw1007 : (Jvm.Cond.selects "Marginnote$Paper" ({ cls := "Marginnote$Paper", name := "isGrave", desc := "(I)Z" } : Jvm.MethodName) ({ cls := "Marginnote$Paper", name := "isGrave", desc := "(I)Z" } : Jvm.MethodName)) ∈ GW := GW_5 0 (List.mem_of_getElem? (i := 47) rfl) rfl
theorem mw1008 : (Jvm.Cond.code ({ cls := "Marginnote$Paper", name := "isGrave", desc := "(I)Z" } : Jvm.MethodName) prog_5_method_24_code (2 : Nat) (Option.some Jvm.ClassFile.FieldType.boolean)) ∈ GW := GW_5 0 (List.mem_of_getElem? (i := 48) rfl) rfl
theorem mw1009 : (Jvm.Cond.methodLink "MarginnoteLaw" (284 : Nat) ({ cls := "MarginnoteLaw", name := "has", desc := "(LMarginnote;I[J)I" } : Jvm.MethodName)) ∈ GW := GW_5 0 (List.mem_of_getElem? (i := 49) rfl) rfl
theorem mw1010 : (Jvm.Cond.static ({ cls := "MarginnoteLaw", name := "has", desc := "(LMarginnote;I[J)I" } : Jvm.MethodName)) ∈ GW := GW_5 0 (List.mem_of_getElem? (i := 50) rfl) rfl
theorem mw1011 : (Jvm.Cond.codeWith ({ cls := "MarginnoteLaw", name := "has", desc := "(LMarginnote;I[J)I" } : Jvm.MethodName) method_41_code (4 : Nat) (Option.some Jvm.ClassFile.FieldType.int) [((0 : Nat), (9 : Nat), (12 : Nat), (13 : Nat))]) ∈ GW := GW_5 0 (List.mem_of_getElem? (i := 51) rfl) rfl
theorem mw1012 : (Jvm.Cond.methodLink "MarginnoteLaw" (137 : Nat) ({ cls := "Marginnote", name := "has", desc := "(I)I" } : Jvm.MethodName)) ∈ GW := GW_5 0 (List.mem_of_getElem? (i := 52) rfl) rfl
theorem mw1013 : (Jvm.Cond.instanceMethod ({ cls := "Marginnote", name := "has", desc := "(I)I" } : Jvm.MethodName)) ∈ GW := GW_5 0 (List.mem_of_getElem? (i := 53) rfl) rfl
theorem mw1014 : (Jvm.Cond.selects "Marginnote" ({ cls := "Marginnote", name := "has", desc := "(I)I" } : Jvm.MethodName) ({ cls := "Marginnote", name := "has", desc := "(I)I" } : Jvm.MethodName)) ∈ GW := GW_5 0 (List.mem_of_getElem? (i := 54) rfl) rfl
theorem mw1015 : (Jvm.Cond.code ({ cls := "Marginnote", name := "has", desc := "(I)I" } : Jvm.MethodName) prog_1_method_41_code (2 : Nat) (Option.some Jvm.ClassFile.FieldType.int)) ∈ GW := GW_5 0 (List.mem_of_getElem? (i := 55) rfl) rfl
theorem mw1016 : (Jvm.Cond.methodLink "MarginnoteLaw" (287 : Nat) ({ cls := "MarginnoteLaw", name := "actAt", desc := "(LMarginnote;II[J)I" } : Jvm.MethodName)) ∈ GW := GW_5 0 (List.mem_of_getElem? (i := 56) rfl) rfl
theorem mw1017 : (Jvm.Cond.static ({ cls := "MarginnoteLaw", name := "actAt", desc := "(LMarginnote;II[J)I" } : Jvm.MethodName)) ∈ GW := GW_5 0 (List.mem_of_getElem? (i := 57) rfl) rfl
theorem mw1018 : (Jvm.Cond.codeWith ({ cls := "MarginnoteLaw", name := "actAt", desc := "(LMarginnote;II[J)I" } : Jvm.MethodName) method_42_code (5 : Nat) (Option.some Jvm.ClassFile.FieldType.int) [((0 : Nat), (10 : Nat), (13 : Nat), (13 : Nat))]) ∈ GW := GW_5 0 (List.mem_of_getElem? (i := 58) rfl) rfl
theorem mw1019 : (Jvm.Cond.methodLink "MarginnoteLaw" (140 : Nat) ({ cls := "Marginnote", name := "actAt", desc := "(II)I" } : Jvm.MethodName)) ∈ GW := GW_5 0 (List.mem_of_getElem? (i := 59) rfl) rfl
theorem mw1020 : (Jvm.Cond.instanceMethod ({ cls := "Marginnote", name := "actAt", desc := "(II)I" } : Jvm.MethodName)) ∈ GW := GW_5 0 (List.mem_of_getElem? (i := 60) rfl) rfl
theorem mw1021 : (Jvm.Cond.selects "Marginnote" ({ cls := "Marginnote", name := "actAt", desc := "(II)I" } : Jvm.MethodName) ({ cls := "Marginnote", name := "actAt", desc := "(II)I" } : Jvm.MethodName)) ∈ GW := GW_5 0 (List.mem_of_getElem? (i := 61) rfl) rfl
theorem mw1022 : (Jvm.Cond.code ({ cls := "Marginnote", name := "actAt", desc := "(II)I" } : Jvm.MethodName) prog_1_method_42_code (7 : Nat) (Option.some Jvm.ClassFile.FieldType.int)) ∈ GW := GW_5 0 (List.mem_of_getElem? (i := 62) rfl) rfl
theorem mw1024 : (Jvm.Cond.methodLink "MarginnoteLaw" (290 : Nat) ({ cls := "MarginnoteLaw", name := "act", desc := "(LMarginnote;I[J)I" } : Jvm.MethodName)) ∈ GW := GW_5 0 (List.mem_of_getElem? (i := 64) rfl) rfl
theorem mw1025 : (Jvm.Cond.static ({ cls := "MarginnoteLaw", name := "act", desc := "(LMarginnote;I[J)I" } : Jvm.MethodName)) ∈ GW := GW_5 0 (List.mem_of_getElem? (i := 65) rfl) rfl
theorem mw1026 : (Jvm.Cond.codeWith ({ cls := "MarginnoteLaw", name := "act", desc := "(LMarginnote;I[J)I" } : Jvm.MethodName) method_43_code (4 : Nat) (Option.some Jvm.ClassFile.FieldType.int) [((0 : Nat), (9 : Nat), (12 : Nat), (13 : Nat))]) ∈ GW := GW_5 0 (List.mem_of_getElem? (i := 66) rfl) rfl
theorem mw1027 : (Jvm.Cond.methodLink "MarginnoteLaw" (143 : Nat) ({ cls := "Marginnote", name := "act", desc := "(I)I" } : Jvm.MethodName)) ∈ GW := GW_5 0 (List.mem_of_getElem? (i := 67) rfl) rfl
theorem mw1028 : (Jvm.Cond.instanceMethod ({ cls := "Marginnote", name := "act", desc := "(I)I" } : Jvm.MethodName)) ∈ GW := GW_5 0 (List.mem_of_getElem? (i := 68) rfl) rfl
theorem mw1029 : (Jvm.Cond.selects "Marginnote" ({ cls := "Marginnote", name := "act", desc := "(I)I" } : Jvm.MethodName) ({ cls := "Marginnote", name := "act", desc := "(I)I" } : Jvm.MethodName)) ∈ GW := GW_5 0 (List.mem_of_getElem? (i := 69) rfl) rfl
theorem mw1030 : (Jvm.Cond.code ({ cls := "Marginnote", name := "act", desc := "(I)I" } : Jvm.MethodName) prog_1_method_43_code (2 : Nat) (Option.some Jvm.ClassFile.FieldType.int)) ∈ GW := GW_5 0 (List.mem_of_getElem? (i := 70) rfl) rfl
theorem mw1032 : (Jvm.Cond.methodLink "MarginnoteLaw" (293 : Nat) ({ cls := "MarginnoteLaw", name := "isUndone", desc := "(LMarginnote;II[J)I" } : Jvm.MethodName)) ∈ GW := GW_5 0 (List.mem_of_getElem? (i := 72) rfl) rfl
theorem mw1033 : (Jvm.Cond.static ({ cls := "MarginnoteLaw", name := "isUndone", desc := "(LMarginnote;II[J)I" } : Jvm.MethodName)) ∈ GW := GW_5 0 (List.mem_of_getElem? (i := 73) rfl) rfl
theorem mw1034 : (Jvm.Cond.codeWith ({ cls := "MarginnoteLaw", name := "isUndone", desc := "(LMarginnote;II[J)I" } : Jvm.MethodName) method_44_code (5 : Nat) (Option.some Jvm.ClassFile.FieldType.int) [((0 : Nat), (17 : Nat), (20 : Nat), (13 : Nat))]) ∈ GW := GW_5 0 (List.mem_of_getElem? (i := 74) rfl) rfl
theorem mw1035 : (Jvm.Cond.methodLink "MarginnoteLaw" (146 : Nat) ({ cls := "Marginnote", name := "isUndone", desc := "(II)Z" } : Jvm.MethodName)) ∈ GW := GW_5 0 (List.mem_of_getElem? (i := 75) rfl) rfl
theorem mw1036 : (Jvm.Cond.instanceMethod ({ cls := "Marginnote", name := "isUndone", desc := "(II)Z" } : Jvm.MethodName)) ∈ GW := GW_5 0 (List.mem_of_getElem? (i := 76) rfl) rfl
theorem mw1037 : (Jvm.Cond.selects "Marginnote" ({ cls := "Marginnote", name := "isUndone", desc := "(II)Z" } : Jvm.MethodName) ({ cls := "Marginnote", name := "isUndone", desc := "(II)Z" } : Jvm.MethodName)) ∈ GW := GW_5 0 (List.mem_of_getElem? (i := 77) rfl) rfl
theorem mw1038 : (Jvm.Cond.code ({ cls := "Marginnote", name := "isUndone", desc := "(II)Z" } : Jvm.MethodName) prog_1_method_44_code (4 : Nat) (Option.some Jvm.ClassFile.FieldType.boolean)) ∈ GW := GW_5 0 (List.mem_of_getElem? (i := 78) rfl) rfl
theorem mw1039 : (Jvm.Cond.classLink "MarginnoteLaw" (151 : Nat) "MarginnoteModel") ∈ GW := GW_5 0 (List.mem_of_getElem? (i := 79) rfl) rfl
theorem mw1040 : (Jvm.Cond.instantiable "MarginnoteModel" (45 : Nat)) ∈ GW := GW_5 0 (List.mem_of_getElem? (i := 80) rfl) rfl
theorem mw1041 : (Jvm.Cond.methodLink "MarginnoteLaw" (153 : Nat) ({ cls := "MarginnoteModel", name := "<init>", desc := "()V" } : Jvm.MethodName)) ∈ GW := GW_5 0 (List.mem_of_getElem? (i := 81) rfl) rfl
theorem mw1042 : (Jvm.Cond.instanceMethod ({ cls := "MarginnoteModel", name := "<init>", desc := "()V" } : Jvm.MethodName)) ∈ GW := GW_5 0 (List.mem_of_getElem? (i := 82) rfl) rfl
theorem mw1043 : (Jvm.Cond.code ({ cls := "MarginnoteModel", name := "<init>", desc := "()V" } : Jvm.MethodName) prog_8_method_1_code (2 : Nat) (Option.none : Option Jvm.ClassFile.FieldType)) ∈ GW := GW_5 0 (List.mem_of_getElem? (i := 83) rfl) rfl
theorem mw1044 : (Jvm.Cond.methodLink "MarginnoteModel" (1 : Nat) ({ cls := "java/lang/Object", name := "<init>", desc := "()V" } : Jvm.MethodName)) ∈ GW := GW_5 0 (List.mem_of_getElem? (i := 84) rfl) rfl
theorem mw1045 : (Jvm.Cond.constant "MarginnoteModel" (74 : Nat) (51200 : Int32)) ∈ GW := GW_5 0 (List.mem_of_getElem? (i := 85) rfl) rfl
theorem mw1046 : (Jvm.Cond.fieldLink "MarginnoteModel" (126 : Nat) "MarginnoteModel" "thrown" "I") ∈ GW := GW_5 0 (List.mem_of_getElem? (i := 86) rfl) rfl
theorem mw1047 : (Jvm.Cond.fieldLink "MarginnoteModel" (134 : Nat) "MarginnoteModel" "actMany" "I") ∈ GW := GW_5 0 (List.mem_of_getElem? (i := 87) rfl) rfl
theorem mw1048 : (Jvm.Cond.fieldLink "MarginnoteModel" (7 : Nat) "MarginnoteModel" "makers" "[I") ∈ GW := GW_5 0 (List.mem_of_getElem? (i := 88) rfl) rfl
theorem mw1049 : (Jvm.Cond.fieldLink "MarginnoteModel" (13 : Nat) "MarginnoteModel" "counts" "[I") ∈ GW := GW_5 0 (List.mem_of_getElem? (i := 89) rfl) rfl
theorem mw1050 : (Jvm.Cond.fieldLink "MarginnoteModel" (16 : Nat) "MarginnoteModel" "kinds" "[I") ∈ GW := GW_5 0 (List.mem_of_getElem? (i := 90) rfl) rfl
theorem mw1051 : (Jvm.Cond.fieldLink "MarginnoteModel" (19 : Nat) "MarginnoteModel" "ones" "[I") ∈ GW := GW_5 0 (List.mem_of_getElem? (i := 91) rfl) rfl
theorem mw1052 : (Jvm.Cond.fieldLink "MarginnoteModel" (22 : Nat) "MarginnoteModel" "twos" "[I") ∈ GW := GW_5 0 (List.mem_of_getElem? (i := 92) rfl) rfl
theorem mw1053 : (Jvm.Cond.fieldLink "MarginnoteModel" (25 : Nat) "MarginnoteModel" "threes" "[I") ∈ GW := GW_5 0 (List.mem_of_getElem? (i := 93) rfl) rfl
theorem mw1054 : (Jvm.Cond.fieldLink "MarginnoteModel" (28 : Nat) "MarginnoteModel" "fours" "[I") ∈ GW := GW_5 0 (List.mem_of_getElem? (i := 94) rfl) rfl
theorem mw1055 : (Jvm.Cond.fieldLink "MarginnoteModel" (31 : Nat) "MarginnoteModel" "areProposals" "[Z") ∈ GW := GW_5 0 (List.mem_of_getElem? (i := 95) rfl) rfl
theorem mw1056 : (Jvm.Cond.fieldLink "MarginnoteModel" (241 : Nat) "MarginnoteModel" "commentMany" "I") ∈ GW := GW_5 0 (List.mem_of_getElem? (i := 96) rfl) rfl
theorem mw1057 : (Jvm.Cond.fieldLink "MarginnoteModel" (35 : Nat) "MarginnoteModel" "commentOf" "[I") ∈ GW := GW_5 0 (List.mem_of_getElem? (i := 97) rfl) rfl
theorem mw1058 : (Jvm.Cond.fieldLink "MarginnoteModel" (38 : Nat) "MarginnoteModel" "has" "[Z") ∈ GW := GW_5 0 (List.mem_of_getElem? (i := 98) rfl) rfl
theorem mw1059 : (Jvm.Cond.fieldLink "MarginnoteModel" (41 : Nat) "MarginnoteModel" "journals" "[I") ∈ GW := GW_5 0 (List.mem_of_getElem? (i := 99) rfl) rfl
theorem mw1060 : (Jvm.Cond.fieldLink "MarginnoteModel" (44 : Nat) "MarginnoteModel" "journalMany" "[I") ∈ GW := GW_5 0 (List.mem_of_getElem? (i := 100) rfl) rfl
theorem mw1061 : (Jvm.Cond.fieldLink "MarginnoteModel" (47 : Nat) "MarginnoteModel" "safeMany" "[I") ∈ GW := GW_5 0 (List.mem_of_getElem? (i := 101) rfl) rfl
theorem mw1062 : (Jvm.Cond.fieldLink "MarginnoteModel" (50 : Nat) "MarginnoteModel" "tops" "[I") ∈ GW := GW_5 0 (List.mem_of_getElem? (i := 102) rfl) rfl
theorem mw1063 : (Jvm.Cond.fieldLink "MarginnoteModel" (53 : Nat) "MarginnoteModel" "cursors" "[I") ∈ GW := GW_5 0 (List.mem_of_getElem? (i := 103) rfl) rfl
theorem mw1064 : (Jvm.Cond.fieldLink "MarginnoteModel" (56 : Nat) "MarginnoteModel" "tails" "[I") ∈ GW := GW_5 0 (List.mem_of_getElem? (i := 104) rfl) rfl
theorem mw1065 : (Jvm.Cond.fieldLink "MarginnoteModel" (59 : Nat) "MarginnoteModel" "propose" "[Z") ∈ GW := GW_5 0 (List.mem_of_getElem? (i := 105) rfl) rfl
theorem mw1066 : (Jvm.Cond.fieldLink "MarginnoteModel" (62 : Nat) "MarginnoteModel" "knows" "[Z") ∈ GW := GW_5 0 (List.mem_of_getElem? (i := 106) rfl) rfl
theorem mw1067 : (Jvm.Cond.fieldLink "MarginnoteModel" (259 : Nat) "MarginnoteModel" "messageMany" "I") ∈ GW := GW_5 0 (List.mem_of_getElem? (i := 107) rfl) rfl
theorem mw1068 : (Jvm.Cond.fieldLink "MarginnoteModel" (65 : Nat) "MarginnoteModel" "senders" "[I") ∈ GW := GW_5 0 (List.mem_of_getElem? (i := 108) rfl) rfl
theorem mw1069 : (Jvm.Cond.fieldLink "MarginnoteModel" (68 : Nat) "MarginnoteModel" "receivers" "[I") ∈ GW := GW_5 0 (List.mem_of_getElem? (i := 109) rfl) rfl
theorem mw1070 : (Jvm.Cond.fieldLink "MarginnoteModel" (71 : Nat) "MarginnoteModel" "sent" "[Z") ∈ GW := GW_5 0 (List.mem_of_getElem? (i := 110) rfl) rfl
theorem mw1071 : (Jvm.Cond.fieldLink "MarginnoteModel" (75 : Nat) "MarginnoteModel" "told" "[Z") ∈ GW := GW_5 0 (List.mem_of_getElem? (i := 111) rfl) rfl
theorem mw1072 : (Jvm.Cond.fieldLink "MarginnoteModel" (265 : Nat) "MarginnoteModel" "versionMany" "I") ∈ GW := GW_5 0 (List.mem_of_getElem? (i := 112) rfl) rfl
theorem mw1073 : (Jvm.Cond.fieldLink "MarginnoteModel" (78 : Nat) "MarginnoteModel" "versions" "[Z") ∈ GW := GW_5 0 (List.mem_of_getElem? (i := 113) rfl) rfl
theorem mw1074 : (Jvm.Cond.fieldLink "MarginnoteModel" (81 : Nat) "MarginnoteModel" "in" "[Z") ∈ GW := GW_5 0 (List.mem_of_getElem? (i := 114) rfl) rfl
theorem mw1075 : (Jvm.Cond.fieldLink "MarginnoteModel" (137 : Nat) "MarginnoteModel" "orderMany" "I") ∈ GW := GW_5 0 (List.mem_of_getElem? (i := 115) rfl) rfl
theorem mw1076 : (Jvm.Cond.fieldLink "MarginnoteModel" (84 : Nat) "MarginnoteModel" "order" "[I") ∈ GW := GW_5 0 (List.mem_of_getElem? (i := 116) rfl) rfl
theorem mw1077 : (Jvm.Cond.fieldLink "MarginnoteModel" (87 : Nat) "MarginnoteModel" "undone" "[Z") ∈ GW := GW_5 0 (List.mem_of_getElem? (i := 117) rfl) rfl
theorem mw1078 : (Jvm.Cond.fieldLink "MarginnoteModel" (144 : Nat) "MarginnoteModel" "rowMany" "I") ∈ GW := GW_5 0 (List.mem_of_getElem? (i := 118) rfl) rfl
theorem mw1079 : (Jvm.Cond.fieldLink "MarginnoteModel" (90 : Nat) "MarginnoteModel" "row" "[I") ∈ GW := GW_5 0 (List.mem_of_getElem? (i := 119) rfl) rfl
theorem mw1080 : (Jvm.Cond.fieldLink "MarginnoteModel" (93 : Nat) "MarginnoteModel" "states" "[I") ∈ GW := GW_5 0 (List.mem_of_getElem? (i := 120) rfl) rfl
theorem mw1081 : (Jvm.Cond.fieldLink "MarginnoteModel" (96 : Nat) "MarginnoteModel" "removed" "[Z") ∈ GW := GW_5 0 (List.mem_of_getElem? (i := 121) rfl) rfl
theorem mw1082 : (Jvm.Cond.fieldLink "MarginnoteModel" (99 : Nat) "MarginnoteModel" "marks" "[I") ∈ GW := GW_5 0 (List.mem_of_getElem? (i := 122) rfl) rfl
theorem mw1083 : (Jvm.Cond.fieldLink "MarginnoteModel" (102 : Nat) "MarginnoteModel" "covers" "[I") ∈ GW := GW_5 0 (List.mem_of_getElem? (i := 123) rfl) rfl
theorem mw1084 : (Jvm.Cond.fieldLink "MarginnoteModel" (105 : Nat) "MarginnoteModel" "waits" "[Z") ∈ GW := GW_5 0 (List.mem_of_getElem? (i := 124) rfl) rfl
theorem mw1085 : (Jvm.Cond.fieldLink "MarginnoteModel" (108 : Nat) "MarginnoteModel" "blockKinds" "[I") ∈ GW := GW_5 0 (List.mem_of_getElem? (i := 125) rfl) rfl
theorem mw1086 : (Jvm.Cond.fieldLink "MarginnoteModel" (111 : Nat) "MarginnoteModel" "aboves" "[I") ∈ GW := GW_5 0 (List.mem_of_getElem? (i := 126) rfl) rfl
theorem mw1087 : (Jvm.Cond.fieldLink "MarginnoteModel" (114 : Nat) "MarginnoteModel" "levels" "[I") ∈ GW := GW_5 0 (List.mem_of_getElem? (i := 127) rfl) rfl
theorem mw1088 : (Jvm.Cond.fieldLink "MarginnoteModel" (117 : Nat) "MarginnoteModel" "kept" "[Z") ∈ GW := GW_5 0 (List.mem_of_getElem? (i := 128) rfl) rfl
theorem mw1089 : (Jvm.Cond.fieldLink "MarginnoteModel" (120 : Nat) "MarginnoteModel" "erased" "[I") ∈ GW := GW_5 0 (List.mem_of_getElem? (i := 129) rfl) rfl
theorem mw1090 : (Jvm.Cond.fieldLink "MarginnoteModel" (123 : Nat) "MarginnoteModel" "asked" "[Z") ∈ GW := GW_5 0 (List.mem_of_getElem? (i := 130) rfl) rfl
theorem mw1091 : (Jvm.Cond.lays "MarginnoteModel" "MarginnoteModel" "thrown" "I") ∈ GW := GW_5 0 (List.mem_of_getElem? (i := 131) rfl) rfl
theorem mw1093 : (Jvm.Cond.lays "MarginnoteModel" "MarginnoteModel" "actMany" "I") ∈ GW := GW_5 0 (List.mem_of_getElem? (i := 133) rfl) rfl
theorem mw1095 : (Jvm.Cond.laysFinal "MarginnoteModel" "MarginnoteModel" "makers" "[I") ∈ GW := GW_5 0 (List.mem_of_getElem? (i := 135) rfl) rfl
theorem mw1097 : (Jvm.Cond.laysFinal "MarginnoteModel" "MarginnoteModel" "counts" "[I") ∈ GW := GW_5 0 (List.mem_of_getElem? (i := 137) rfl) rfl
theorem mw1099 : (Jvm.Cond.laysFinal "MarginnoteModel" "MarginnoteModel" "kinds" "[I") ∈ GW := GW_5 0 (List.mem_of_getElem? (i := 139) rfl) rfl
theorem mw1101 : (Jvm.Cond.laysFinal "MarginnoteModel" "MarginnoteModel" "ones" "[I") ∈ GW := GW_5 0 (List.mem_of_getElem? (i := 141) rfl) rfl
theorem mw1103 : (Jvm.Cond.laysFinal "MarginnoteModel" "MarginnoteModel" "twos" "[I") ∈ GW := GW_5 0 (List.mem_of_getElem? (i := 143) rfl) rfl
theorem mw1105 : (Jvm.Cond.laysFinal "MarginnoteModel" "MarginnoteModel" "threes" "[I") ∈ GW := GW_5 0 (List.mem_of_getElem? (i := 145) rfl) rfl
theorem mw1107 : (Jvm.Cond.laysFinal "MarginnoteModel" "MarginnoteModel" "fours" "[I") ∈ GW := GW_5 0 (List.mem_of_getElem? (i := 147) rfl) rfl
theorem mw1109 : (Jvm.Cond.laysFinal "MarginnoteModel" "MarginnoteModel" "areProposals" "[Z") ∈ GW := GW_5 0 (List.mem_of_getElem? (i := 149) rfl) rfl
theorem mw1111 : (Jvm.Cond.lays "MarginnoteModel" "MarginnoteModel" "commentMany" "I") ∈ GW := GW_5 0 (List.mem_of_getElem? (i := 151) rfl) rfl
theorem mw1113 : (Jvm.Cond.laysFinal "MarginnoteModel" "MarginnoteModel" "commentOf" "[I") ∈ GW := GW_5 0 (List.mem_of_getElem? (i := 153) rfl) rfl
theorem mw1115 : (Jvm.Cond.laysFinal "MarginnoteModel" "MarginnoteModel" "has" "[Z") ∈ GW := GW_5 0 (List.mem_of_getElem? (i := 155) rfl) rfl
theorem mw1117 : (Jvm.Cond.laysFinal "MarginnoteModel" "MarginnoteModel" "journals" "[I") ∈ GW := GW_5 0 (List.mem_of_getElem? (i := 157) rfl) rfl
theorem mw1119 : (Jvm.Cond.laysFinal "MarginnoteModel" "MarginnoteModel" "journalMany" "[I") ∈ GW := GW_5 0 (List.mem_of_getElem? (i := 159) rfl) rfl
theorem mw1121 : (Jvm.Cond.laysFinal "MarginnoteModel" "MarginnoteModel" "safeMany" "[I") ∈ GW := GW_5 0 (List.mem_of_getElem? (i := 161) rfl) rfl
theorem mw1123 : (Jvm.Cond.laysFinal "MarginnoteModel" "MarginnoteModel" "tops" "[I") ∈ GW := GW_5 0 (List.mem_of_getElem? (i := 163) rfl) rfl
theorem mw1125 : (Jvm.Cond.laysFinal "MarginnoteModel" "MarginnoteModel" "cursors" "[I") ∈ GW := GW_5 0 (List.mem_of_getElem? (i := 165) rfl) rfl
theorem mw1127 : (Jvm.Cond.laysFinal "MarginnoteModel" "MarginnoteModel" "tails" "[I") ∈ GW := GW_5 0 (List.mem_of_getElem? (i := 167) rfl) rfl
theorem mw1129 : (Jvm.Cond.laysFinal "MarginnoteModel" "MarginnoteModel" "propose" "[Z") ∈ GW := GW_5 0 (List.mem_of_getElem? (i := 169) rfl) rfl
theorem mw1131 : (Jvm.Cond.laysFinal "MarginnoteModel" "MarginnoteModel" "knows" "[Z") ∈ GW := GW_5 0 (List.mem_of_getElem? (i := 171) rfl) rfl
theorem mw1133 : (Jvm.Cond.lays "MarginnoteModel" "MarginnoteModel" "messageMany" "I") ∈ GW := GW_5 0 (List.mem_of_getElem? (i := 173) rfl) rfl
theorem mw1135 : (Jvm.Cond.laysFinal "MarginnoteModel" "MarginnoteModel" "senders" "[I") ∈ GW := GW_5 0 (List.mem_of_getElem? (i := 175) rfl) rfl
theorem mw1137 : (Jvm.Cond.laysFinal "MarginnoteModel" "MarginnoteModel" "receivers" "[I") ∈ GW := GW_5 0 (List.mem_of_getElem? (i := 177) rfl) rfl
theorem mw1139 : (Jvm.Cond.laysFinal "MarginnoteModel" "MarginnoteModel" "sent" "[Z") ∈ GW := GW_5 0 (List.mem_of_getElem? (i := 179) rfl) rfl
theorem mw1141 : (Jvm.Cond.laysFinal "MarginnoteModel" "MarginnoteModel" "told" "[Z") ∈ GW := GW_5 0 (List.mem_of_getElem? (i := 181) rfl) rfl
theorem mw1143 : (Jvm.Cond.lays "MarginnoteModel" "MarginnoteModel" "versionMany" "I") ∈ GW := GW_5 0 (List.mem_of_getElem? (i := 183) rfl) rfl
theorem mw1145 : (Jvm.Cond.laysFinal "MarginnoteModel" "MarginnoteModel" "versions" "[Z") ∈ GW := GW_5 0 (List.mem_of_getElem? (i := 185) rfl) rfl
theorem mw1147 : (Jvm.Cond.laysFinal "MarginnoteModel" "MarginnoteModel" "in" "[Z") ∈ GW := GW_5 0 (List.mem_of_getElem? (i := 187) rfl) rfl
theorem mw1149 : (Jvm.Cond.lays "MarginnoteModel" "MarginnoteModel" "orderMany" "I") ∈ GW := GW_5 0 (List.mem_of_getElem? (i := 189) rfl) rfl
theorem mw1151 : (Jvm.Cond.laysFinal "MarginnoteModel" "MarginnoteModel" "order" "[I") ∈ GW := GW_5 0 (List.mem_of_getElem? (i := 191) rfl) rfl
theorem mw1153 : (Jvm.Cond.laysFinal "MarginnoteModel" "MarginnoteModel" "undone" "[Z") ∈ GW := GW_5 0 (List.mem_of_getElem? (i := 193) rfl) rfl
theorem mw1155 : (Jvm.Cond.lays "MarginnoteModel" "MarginnoteModel" "rowMany" "I") ∈ GW := GW_5 0 (List.mem_of_getElem? (i := 195) rfl) rfl
theorem mw1157 : (Jvm.Cond.laysFinal "MarginnoteModel" "MarginnoteModel" "row" "[I") ∈ GW := GW_5 0 (List.mem_of_getElem? (i := 197) rfl) rfl
theorem mw1159 : (Jvm.Cond.laysFinal "MarginnoteModel" "MarginnoteModel" "states" "[I") ∈ GW := GW_5 0 (List.mem_of_getElem? (i := 199) rfl) rfl
theorem mw1161 : (Jvm.Cond.laysFinal "MarginnoteModel" "MarginnoteModel" "removed" "[Z") ∈ GW := GW_5 0 (List.mem_of_getElem? (i := 201) rfl) rfl
theorem mw1163 : (Jvm.Cond.laysFinal "MarginnoteModel" "MarginnoteModel" "marks" "[I") ∈ GW := GW_5 0 (List.mem_of_getElem? (i := 203) rfl) rfl
theorem mw1165 : (Jvm.Cond.laysFinal "MarginnoteModel" "MarginnoteModel" "covers" "[I") ∈ GW := GW_5 0 (List.mem_of_getElem? (i := 205) rfl) rfl
theorem mw1167 : (Jvm.Cond.laysFinal "MarginnoteModel" "MarginnoteModel" "waits" "[Z") ∈ GW := GW_5 0 (List.mem_of_getElem? (i := 207) rfl) rfl
theorem mw1169 : (Jvm.Cond.laysFinal "MarginnoteModel" "MarginnoteModel" "blockKinds" "[I") ∈ GW := GW_5 0 (List.mem_of_getElem? (i := 209) rfl) rfl
theorem mw1171 : (Jvm.Cond.laysFinal "MarginnoteModel" "MarginnoteModel" "aboves" "[I") ∈ GW := GW_5 0 (List.mem_of_getElem? (i := 211) rfl) rfl
theorem mw1173 : (Jvm.Cond.laysFinal "MarginnoteModel" "MarginnoteModel" "levels" "[I") ∈ GW := GW_5 0 (List.mem_of_getElem? (i := 213) rfl) rfl
theorem mw1175 : (Jvm.Cond.laysFinal "MarginnoteModel" "MarginnoteModel" "kept" "[Z") ∈ GW := GW_5 0 (List.mem_of_getElem? (i := 215) rfl) rfl
theorem mw1177 : (Jvm.Cond.laysFinal "MarginnoteModel" "MarginnoteModel" "erased" "[I") ∈ GW := GW_5 0 (List.mem_of_getElem? (i := 217) rfl) rfl
theorem mw1179 : (Jvm.Cond.laysFinal "MarginnoteModel" "MarginnoteModel" "asked" "[Z") ∈ GW := GW_5 0 (List.mem_of_getElem? (i := 219) rfl) rfl
theorem mw1182 : (Jvm.Cond.methodLink "MarginnoteLaw" (160 : Nat) ({ cls := "MarginnoteModel", name := "thrown", desc := "()I" } : Jvm.MethodName)) ∈ GW := GW_5 0 (List.mem_of_getElem? (i := 222) rfl) rfl
theorem mw1183 : (Jvm.Cond.instanceMethod ({ cls := "MarginnoteModel", name := "thrown", desc := "()I" } : Jvm.MethodName)) ∈ GW := GW_5 0 (List.mem_of_getElem? (i := 223) rfl) rfl
theorem mw1184 : (Jvm.Cond.selects "MarginnoteModel" ({ cls := "MarginnoteModel", name := "thrown", desc := "()I" } : Jvm.MethodName) ({ cls := "MarginnoteModel", name := "thrown", desc := "()I" } : Jvm.MethodName)) ∈ GW := GW_5 0 (List.mem_of_getElem? (i := 224) rfl) rfl
theorem mw1185 : (Jvm.Cond.code ({ cls := "MarginnoteModel", name := "thrown", desc := "()I" } : Jvm.MethodName) prog_8_method_2_code (1 : Nat) (Option.some Jvm.ClassFile.FieldType.int)) ∈ GW := GW_5 0 (List.mem_of_getElem? (i := 225) rfl) rfl
theorem mw1186 : (Jvm.Cond.methodLink "MarginnoteLaw" (159 : Nat) ({ cls := "MarginnoteModel", name := "type", desc := "(IC)I" } : Jvm.MethodName)) ∈ GW := GW_5 0 (List.mem_of_getElem? (i := 226) rfl) rfl
theorem mw1187 : (Jvm.Cond.instanceMethod ({ cls := "MarginnoteModel", name := "type", desc := "(IC)I" } : Jvm.MethodName)) ∈ GW := GW_5 0 (List.mem_of_getElem? (i := 227) rfl) rfl
theorem mw1188 : (Jvm.Cond.selects "MarginnoteModel" ({ cls := "MarginnoteModel", name := "type", desc := "(IC)I" } : Jvm.MethodName) ({ cls := "MarginnoteModel", name := "type", desc := "(IC)I" } : Jvm.MethodName)) ∈ GW := GW_5 0 (List.mem_of_getElem? (i := 228) rfl) rfl
theorem mw1189 : (Jvm.Cond.code ({ cls := "MarginnoteModel", name := "type", desc := "(IC)I" } : Jvm.MethodName) prog_8_method_32_code (3 : Nat) (Option.some Jvm.ClassFile.FieldType.int)) ∈ GW := GW_5 0 (List.mem_of_getElem? (i := 229) rfl) rfl
theorem mw1190 : (Jvm.Cond.methodLink "MarginnoteModel" (215 : Nat) ({ cls := "MarginnoteModel", name := "isSite", desc := "(I)Z" } : Jvm.MethodName)) ∈ GW := GW_5 0 (List.mem_of_getElem? (i := 230) rfl) rfl
theorem mw1191 : (Jvm.Cond.static ({ cls := "MarginnoteModel", name := "isSite", desc := "(I)Z" } : Jvm.MethodName)) ∈ GW := GW_5 0 (List.mem_of_getElem? (i := 231) rfl) rfl
theorem mw1192 : (Jvm.Cond.code ({ cls := "MarginnoteModel", name := "isSite", desc := "(I)Z" } : Jvm.MethodName) prog_8_method_5_code (1 : Nat) (Option.some Jvm.ClassFile.FieldType.boolean)) ∈ GW := GW_5 0 (List.mem_of_getElem? (i := 232) rfl) rfl
theorem mw1193 : (Jvm.Cond.methodLink "MarginnoteModel" (130 : Nat) ({ cls := "MarginnoteModel", name := "isIn", desc := "(III)Z" } : Jvm.MethodName)) ∈ GW := GW_5 0 (List.mem_of_getElem? (i := 233) rfl) rfl
theorem mw1194 : (Jvm.Cond.static ({ cls := "MarginnoteModel", name := "isIn", desc := "(III)Z" } : Jvm.MethodName)) ∈ GW := GW_5 0 (List.mem_of_getElem? (i := 234) rfl) rfl
theorem mw1195 : (Jvm.Cond.code ({ cls := "MarginnoteModel", name := "isIn", desc := "(III)Z" } : Jvm.MethodName) prog_8_method_4_code (3 : Nat) (Option.some Jvm.ClassFile.FieldType.boolean)) ∈ GW := GW_5 0 (List.mem_of_getElem? (i := 235) rfl) rfl
theorem mw1196 : (Jvm.Cond.methodLink "MarginnoteModel" (218 : Nat) ({ cls := "MarginnoteModel", name := "writes", desc := "(III)I" } : Jvm.MethodName)) ∈ GW := GW_5 0 (List.mem_of_getElem? (i := 236) rfl) rfl
theorem mw1198 : (Jvm.Cond.instanceMethod ({ cls := "MarginnoteModel", name := "writes", desc := "(III)I" } : Jvm.MethodName)) ∈ GW := GW_5 0 (List.mem_of_getElem? (i := 238) rfl) rfl
theorem mw1199 : (Jvm.Cond.code ({ cls := "MarginnoteModel", name := "writes", desc := "(III)I" } : Jvm.MethodName) prog_8_method_31_code (5 : Nat) (Option.some Jvm.ClassFile.FieldType.int)) ∈ GW := GW_5 0 (List.mem_of_getElem? (i := 239) rfl) rfl
theorem mw1200 : (Jvm.Cond.methodLink "MarginnoteModel" (208 : Nat) ({ cls := "MarginnoteModel", name := "findsSite", desc := "(I)V" } : Jvm.MethodName)) ∈ GW := GW_6 0 (List.mem_of_getElem? (i := 0) rfl) rfl
theorem mw1202 : (Jvm.Cond.instanceMethod ({ cls := "MarginnoteModel", name := "findsSite", desc := "(I)V" } : Jvm.MethodName)) ∈ GW := GW_6 0 (List.mem_of_getElem? (i := 2) rfl) rfl
theorem mw1203 : (Jvm.Cond.code ({ cls := "MarginnoteModel", name := "findsSite", desc := "(I)V" } : Jvm.MethodName) prog_8_method_25_code (2 : Nat) (Option.none : Option Jvm.ClassFile.FieldType)) ∈ GW := GW_6 0 (List.mem_of_getElem? (i := 3) rfl) rfl
theorem mw1204 : (Jvm.Cond.methodLink "MarginnoteModel" (201 : Nat) ({ cls := "MarginnoteModel", name := "finds", desc := "([ZI)V" } : Jvm.MethodName)) ∈ GW := GW_6 0 (List.mem_of_getElem? (i := 4) rfl) rfl
theorem mw1206 : (Jvm.Cond.instanceMethod ({ cls := "MarginnoteModel", name := "finds", desc := "([ZI)V" } : Jvm.MethodName)) ∈ GW := GW_6 0 (List.mem_of_getElem? (i := 6) rfl) rfl
theorem mw1207 : (Jvm.Cond.code ({ cls := "MarginnoteModel", name := "finds", desc := "([ZI)V" } : Jvm.MethodName) prog_8_method_15_code (4 : Nat) (Option.none : Option Jvm.ClassFile.FieldType)) ∈ GW := GW_6 0 (List.mem_of_getElem? (i := 7) rfl) rfl
theorem mw1208 : (Jvm.Cond.methodLink "MarginnoteModel" (158 : Nat) ({ cls := "MarginnoteModel", name := "orders", desc := "([ZI)V" } : Jvm.MethodName)) ∈ GW := GW_6 0 (List.mem_of_getElem? (i := 8) rfl) rfl
theorem mw1210 : (Jvm.Cond.instanceMethod ({ cls := "MarginnoteModel", name := "orders", desc := "([ZI)V" } : Jvm.MethodName)) ∈ GW := GW_6 0 (List.mem_of_getElem? (i := 10) rfl) rfl
theorem mw1211 : (Jvm.Cond.code ({ cls := "MarginnoteModel", name := "orders", desc := "([ZI)V" } : Jvm.MethodName) prog_8_method_7_code (5 : Nat) (Option.none : Option Jvm.ClassFile.FieldType)) ∈ GW := GW_6 0 (List.mem_of_getElem? (i := 11) rfl) rfl
theorem mw1212 : (Jvm.Cond.methodLink "MarginnoteModel" (140 : Nat) ({ cls := "MarginnoteModel", name := "isBehind", desc := "(II)Z" } : Jvm.MethodName)) ∈ GW := GW_6 0 (List.mem_of_getElem? (i := 12) rfl) rfl
theorem mw1214 : (Jvm.Cond.instanceMethod ({ cls := "MarginnoteModel", name := "isBehind", desc := "(II)Z" } : Jvm.MethodName)) ∈ GW := GW_6 0 (List.mem_of_getElem? (i := 14) rfl) rfl
theorem mw1215 : (Jvm.Cond.code ({ cls := "MarginnoteModel", name := "isBehind", desc := "(II)Z" } : Jvm.MethodName) prog_8_method_8_code (3 : Nat) (Option.some Jvm.ClassFile.FieldType.boolean)) ∈ GW := GW_6 0 (List.mem_of_getElem? (i := 15) rfl) rfl
theorem mw1216 : (Jvm.Cond.methodLink "MarginnoteModel" (162 : Nat) ({ cls := "MarginnoteModel", name := "does", desc := "(I)V" } : Jvm.MethodName)) ∈ GW := GW_6 0 (List.mem_of_getElem? (i := 16) rfl) rfl
theorem mw1218 : (Jvm.Cond.instanceMethod ({ cls := "MarginnoteModel", name := "does", desc := "(I)V" } : Jvm.MethodName)) ∈ GW := GW_6 0 (List.mem_of_getElem? (i := 18) rfl) rfl
theorem mw1219 : (Jvm.Cond.code ({ cls := "MarginnoteModel", name := "does", desc := "(I)V" } : Jvm.MethodName) prog_8_method_16_code (3 : Nat) (Option.none : Option Jvm.ClassFile.FieldType)) ∈ GW := GW_6 0 (List.mem_of_getElem? (i := 19) rfl) rfl
theorem mw1220 : (Jvm.Cond.methodLink "MarginnoteModel" (166 : Nat) ({ cls := "MarginnoteModel", name := "puts", desc := "(I)V" } : Jvm.MethodName)) ∈ GW := GW_6 0 (List.mem_of_getElem? (i := 20) rfl) rfl
theorem mw1222 : (Jvm.Cond.instanceMethod ({ cls := "MarginnoteModel", name := "puts", desc := "(I)V" } : Jvm.MethodName)) ∈ GW := GW_6 0 (List.mem_of_getElem? (i := 22) rfl) rfl
theorem mw1223 : (Jvm.Cond.code ({ cls := "MarginnoteModel", name := "puts", desc := "(I)V" } : Jvm.MethodName) prog_8_method_18_code (6 : Nat) (Option.none : Option Jvm.ClassFile.FieldType)) ∈ GW := GW_6 0 (List.mem_of_getElem? (i := 23) rfl) rfl
theorem mw1224 : (Jvm.Cond.methodLink "MarginnoteModel" (172 : Nat) ({ cls := "MarginnoteModel", name := "blockOf", desc := "(I)I" } : Jvm.MethodName)) ∈ GW := GW_6 0 (List.mem_of_getElem? (i := 24) rfl) rfl
theorem mw1226 : (Jvm.Cond.instanceMethod ({ cls := "MarginnoteModel", name := "blockOf", desc := "(I)I" } : Jvm.MethodName)) ∈ GW := GW_6 0 (List.mem_of_getElem? (i := 26) rfl) rfl
theorem mw1227 : (Jvm.Cond.code ({ cls := "MarginnoteModel", name := "blockOf", desc := "(I)I" } : Jvm.MethodName) prog_8_method_13_code (2 : Nat) (Option.some Jvm.ClassFile.FieldType.int)) ∈ GW := GW_6 0 (List.mem_of_getElem? (i := 27) rfl) rfl
theorem mw1228 : (Jvm.Cond.methodLink "MarginnoteModel" (151 : Nat) ({ cls := "MarginnoteModel", name := "spot", desc := "(I)I" } : Jvm.MethodName)) ∈ GW := GW_6 0 (List.mem_of_getElem? (i := 28) rfl) rfl
theorem mw1230 : (Jvm.Cond.instanceMethod ({ cls := "MarginnoteModel", name := "spot", desc := "(I)I" } : Jvm.MethodName)) ∈ GW := GW_6 0 (List.mem_of_getElem? (i := 30) rfl) rfl
theorem mw1231 : (Jvm.Cond.code ({ cls := "MarginnoteModel", name := "spot", desc := "(I)I" } : Jvm.MethodName) prog_8_method_9_code (3 : Nat) (Option.some Jvm.ClassFile.FieldType.int)) ∈ GW := GW_6 0 (List.mem_of_getElem? (i := 31) rfl) rfl
theorem mw1232 : (Jvm.Cond.methodLink "MarginnoteModel" (155 : Nat) ({ cls := "MarginnoteModel", name := "blockAt", desc := "(I)I" } : Jvm.MethodName)) ∈ GW := GW_6 0 (List.mem_of_getElem? (i := 32) rfl) rfl
theorem mw1234 : (Jvm.Cond.instanceMethod ({ cls := "MarginnoteModel", name := "blockAt", desc := "(I)I" } : Jvm.MethodName)) ∈ GW := GW_6 0 (List.mem_of_getElem? (i := 34) rfl) rfl
theorem mw1235 : (Jvm.Cond.code ({ cls := "MarginnoteModel", name := "blockAt", desc := "(I)I" } : Jvm.MethodName) prog_8_method_12_code (4 : Nat) (Option.some Jvm.ClassFile.FieldType.int)) ∈ GW := GW_6 0 (List.mem_of_getElem? (i := 35) rfl) rfl
theorem mw1236 : (Jvm.Cond.methodLink "MarginnoteModel" (147 : Nat) ({ cls := "MarginnoteModel", name := "isShown", desc := "(I)Z" } : Jvm.MethodName)) ∈ GW := GW_6 0 (List.mem_of_getElem? (i := 36) rfl) rfl
theorem mw1238 : (Jvm.Cond.instanceMethod ({ cls := "MarginnoteModel", name := "isShown", desc := "(I)Z" } : Jvm.MethodName)) ∈ GW := GW_6 0 (List.mem_of_getElem? (i := 38) rfl) rfl
theorem mw1239 : (Jvm.Cond.code ({ cls := "MarginnoteModel", name := "isShown", desc := "(I)Z" } : Jvm.MethodName) prog_8_method_11_code (2 : Nat) (Option.some Jvm.ClassFile.FieldType.boolean)) ∈ GW := GW_6 0 (List.mem_of_getElem? (i := 39) rfl) rfl
theorem mw1240 : (Jvm.Cond.methodLink "MarginnoteModel" (175 : Nat) ({ cls := "MarginnoteModel", name := "levelIn", desc := "(II)I" } : Jvm.MethodName)) ∈ GW := GW_6 0 (List.mem_of_getElem? (i := 40) rfl) rfl
theorem mw1242 : (Jvm.Cond.instanceMethod ({ cls := "MarginnoteModel", name := "levelIn", desc := "(II)I" } : Jvm.MethodName)) ∈ GW := GW_6 0 (List.mem_of_getElem? (i := 42) rfl) rfl
theorem mw1243 : (Jvm.Cond.code ({ cls := "MarginnoteModel", name := "levelIn", desc := "(II)I" } : Jvm.MethodName) prog_8_method_14_code (3 : Nat) (Option.some Jvm.ClassFile.FieldType.int)) ∈ GW := GW_6 0 (List.mem_of_getElem? (i := 43) rfl) rfl
theorem mw1244 : (Jvm.Cond.methodLink "MarginnoteModel" (169 : Nat) ({ cls := "MarginnoteModel", name := "removes", desc := "(I)V" } : Jvm.MethodName)) ∈ GW := GW_6 0 (List.mem_of_getElem? (i := 44) rfl) rfl
theorem mw1246 : (Jvm.Cond.instanceMethod ({ cls := "MarginnoteModel", name := "removes", desc := "(I)V" } : Jvm.MethodName)) ∈ GW := GW_6 0 (List.mem_of_getElem? (i := 46) rfl) rfl
theorem mw1247 : (Jvm.Cond.code ({ cls := "MarginnoteModel", name := "removes", desc := "(I)V" } : Jvm.MethodName) prog_8_method_19_code (5 : Nat) (Option.none : Option Jvm.ClassFile.FieldType)) ∈ GW := GW_6 0 (List.mem_of_getElem? (i := 47) rfl) rfl
theorem mw1248 : (Jvm.Cond.methodLink "MarginnoteModel" (179 : Nat) ({ cls := "MarginnoteModel", name := "spans", desc := "(I)V" } : Jvm.MethodName)) ∈ GW := GW_6 0 (List.mem_of_getElem? (i := 48) rfl) rfl
theorem mw1250 : (Jvm.Cond.instanceMethod ({ cls := "MarginnoteModel", name := "spans", desc := "(I)V" } : Jvm.MethodName)) ∈ GW := GW_6 0 (List.mem_of_getElem? (i := 50) rfl) rfl
theorem mw1251 : (Jvm.Cond.code ({ cls := "MarginnoteModel", name := "spans", desc := "(I)V" } : Jvm.MethodName) prog_8_method_20_code (5 : Nat) (Option.none : Option Jvm.ClassFile.FieldType)) ∈ GW := GW_6 0 (List.mem_of_getElem? (i := 51) rfl) rfl
theorem mw1252 : (Jvm.Cond.methodLink "MarginnoteModel" (182 : Nat) ({ cls := "MarginnoteModel", name := "comesTo", desc := "(II)Z" } : Jvm.MethodName)) ∈ GW := GW_6 0 (List.mem_of_getElem? (i := 52) rfl) rfl
theorem mw1254 : (Jvm.Cond.instanceMethod ({ cls := "MarginnoteModel", name := "comesTo", desc := "(II)Z" } : Jvm.MethodName)) ∈ GW := GW_6 0 (List.mem_of_getElem? (i := 54) rfl) rfl
theorem mw1255 : (Jvm.Cond.code ({ cls := "MarginnoteModel", name := "comesTo", desc := "(II)Z" } : Jvm.MethodName) prog_8_method_17_code (4 : Nat) (Option.some Jvm.ClassFile.FieldType.boolean)) ∈ GW := GW_6 0 (List.mem_of_getElem? (i := 55) rfl) rfl
theorem mw1256 : (Jvm.Cond.methodLink "MarginnoteModel" (185 : Nat) ({ cls := "MarginnoteModel", name := "decides", desc := "(IIZ)V" } : Jvm.MethodName)) ∈ GW := GW_6 0 (List.mem_of_getElem? (i := 56) rfl) rfl
theorem mw1258 : (Jvm.Cond.instanceMethod ({ cls := "MarginnoteModel", name := "decides", desc := "(IIZ)V" } : Jvm.MethodName)) ∈ GW := GW_6 0 (List.mem_of_getElem? (i := 58) rfl) rfl
theorem mw1259 : (Jvm.Cond.code ({ cls := "MarginnoteModel", name := "decides", desc := "(IIZ)V" } : Jvm.MethodName) prog_8_method_23_code (5 : Nat) (Option.none : Option Jvm.ClassFile.FieldType)) ∈ GW := GW_6 0 (List.mem_of_getElem? (i := 59) rfl) rfl
theorem mw1260 : (Jvm.Cond.methodLink "MarginnoteModel" (192 : Nat) ({ cls := "MarginnoteModel", name := "isDone", desc := "(I)Z" } : Jvm.MethodName)) ∈ GW := GW_6 0 (List.mem_of_getElem? (i := 60) rfl) rfl
theorem mw1262 : (Jvm.Cond.instanceMethod ({ cls := "MarginnoteModel", name := "isDone", desc := "(I)Z" } : Jvm.MethodName)) ∈ GW := GW_6 0 (List.mem_of_getElem? (i := 62) rfl) rfl
theorem mw1263 : (Jvm.Cond.code ({ cls := "MarginnoteModel", name := "isDone", desc := "(I)Z" } : Jvm.MethodName) prog_8_method_24_code (2 : Nat) (Option.some Jvm.ClassFile.FieldType.boolean)) ∈ GW := GW_6 0 (List.mem_of_getElem? (i := 63) rfl) rfl
theorem mw1264 : (Jvm.Cond.methodLink "MarginnoteModel" (195 : Nat) ({ cls := "MarginnoteModel", name := "isOpen", desc := "(I)Z" } : Jvm.MethodName)) ∈ GW := GW_6 0 (List.mem_of_getElem? (i := 64) rfl) rfl
theorem mw1266 : (Jvm.Cond.instanceMethod ({ cls := "MarginnoteModel", name := "isOpen", desc := "(I)Z" } : Jvm.MethodName)) ∈ GW := GW_6 0 (List.mem_of_getElem? (i := 66) rfl) rfl
theorem mw1267 : (Jvm.Cond.code ({ cls := "MarginnoteModel", name := "isOpen", desc := "(I)Z" } : Jvm.MethodName) prog_8_method_22_code (2 : Nat) (Option.some Jvm.ClassFile.FieldType.boolean)) ∈ GW := GW_6 0 (List.mem_of_getElem? (i := 67) rfl) rfl
theorem mw1268 : (Jvm.Cond.methodLink "MarginnoteModel" (189 : Nat) ({ cls := "MarginnoteModel", name := "isSeen", desc := "(I)Z" } : Jvm.MethodName)) ∈ GW := GW_6 0 (List.mem_of_getElem? (i := 68) rfl) rfl
theorem mw1270 : (Jvm.Cond.instanceMethod ({ cls := "MarginnoteModel", name := "isSeen", desc := "(I)Z" } : Jvm.MethodName)) ∈ GW := GW_6 0 (List.mem_of_getElem? (i := 70) rfl) rfl
theorem mw1271 : (Jvm.Cond.code ({ cls := "MarginnoteModel", name := "isSeen", desc := "(I)Z" } : Jvm.MethodName) prog_8_method_10_code (2 : Nat) (Option.some Jvm.ClassFile.FieldType.boolean)) ∈ GW := GW_6 0 (List.mem_of_getElem? (i := 71) rfl) rfl
theorem mw1272 : (Jvm.Cond.methodLink "MarginnoteModel" (198 : Nat) ({ cls := "MarginnoteModel", name := "elementOf", desc := "(I)I" } : Jvm.MethodName)) ∈ GW := GW_6 0 (List.mem_of_getElem? (i := 72) rfl) rfl
theorem mw1274 : (Jvm.Cond.instanceMethod ({ cls := "MarginnoteModel", name := "elementOf", desc := "(I)I" } : Jvm.MethodName)) ∈ GW := GW_6 0 (List.mem_of_getElem? (i := 74) rfl) rfl
theorem mw1275 : (Jvm.Cond.code ({ cls := "MarginnoteModel", name := "elementOf", desc := "(I)I" } : Jvm.MethodName) prog_8_method_21_code (2 : Nat) (Option.some Jvm.ClassFile.FieldType.int)) ∈ GW := GW_6 0 (List.mem_of_getElem? (i := 75) rfl) rfl
theorem mw1276 : (Jvm.Cond.methodLink "MarginnoteModel" (211 : Nat) ({ cls := "MarginnoteModel", name := "makes", desc := "(IIIIIIZ)I" } : Jvm.MethodName)) ∈ GW := GW_6 0 (List.mem_of_getElem? (i := 76) rfl) rfl
theorem mw1278 : (Jvm.Cond.instanceMethod ({ cls := "MarginnoteModel", name := "makes", desc := "(IIIIIIZ)I" } : Jvm.MethodName)) ∈ GW := GW_6 0 (List.mem_of_getElem? (i := 78) rfl) rfl
theorem mw1279 : (Jvm.Cond.code ({ cls := "MarginnoteModel", name := "makes", desc := "(IIIIIIZ)I" } : Jvm.MethodName) prog_8_method_29_code (9 : Nat) (Option.some Jvm.ClassFile.FieldType.int)) ∈ GW := GW_6 0 (List.mem_of_getElem? (i := 79) rfl) rfl
theorem mw1280 : (Jvm.Cond.methodLink "MarginnoteModel" (204 : Nat) ({ cls := "MarginnoteModel", name := "gets", desc := "(II)V" } : Jvm.MethodName)) ∈ GW := GW_6 0 (List.mem_of_getElem? (i := 80) rfl) rfl
theorem mw1282 : (Jvm.Cond.instanceMethod ({ cls := "MarginnoteModel", name := "gets", desc := "(II)V" } : Jvm.MethodName)) ∈ GW := GW_6 0 (List.mem_of_getElem? (i := 82) rfl) rfl
theorem mw1283 : (Jvm.Cond.code ({ cls := "MarginnoteModel", name := "gets", desc := "(II)V" } : Jvm.MethodName) prog_8_method_30_code (3 : Nat) (Option.none : Option Jvm.ClassFile.FieldType)) ∈ GW := GW_6 0 (List.mem_of_getElem? (i := 83) rfl) rfl
theorem mw1284 : (Jvm.Cond.methodLink "MarginnoteLaw" (167 : Nat) ({ cls := "MarginnoteModel", name := "split", desc := "(I)I" } : Jvm.MethodName)) ∈ GW := GW_6 0 (List.mem_of_getElem? (i := 84) rfl) rfl
theorem mw1285 : (Jvm.Cond.instanceMethod ({ cls := "MarginnoteModel", name := "split", desc := "(I)I" } : Jvm.MethodName)) ∈ GW := GW_6 0 (List.mem_of_getElem? (i := 85) rfl) rfl
theorem mw1286 : (Jvm.Cond.selects "MarginnoteModel" ({ cls := "MarginnoteModel", name := "split", desc := "(I)I" } : Jvm.MethodName) ({ cls := "MarginnoteModel", name := "split", desc := "(I)I" } : Jvm.MethodName)) ∈ GW := GW_6 0 (List.mem_of_getElem? (i := 86) rfl) rfl
theorem mw1287 : (Jvm.Cond.code ({ cls := "MarginnoteModel", name := "split", desc := "(I)I" } : Jvm.MethodName) prog_8_method_33_code (2 : Nat) (Option.some Jvm.ClassFile.FieldType.int)) ∈ GW := GW_6 0 (List.mem_of_getElem? (i := 87) rfl) rfl
theorem mw1288 : (Jvm.Cond.methodLink "MarginnoteModel" (222 : Nat) ({ cls := "MarginnoteModel", name := "fails", desc := "(I)I" } : Jvm.MethodName)) ∈ GW := GW_6 0 (List.mem_of_getElem? (i := 88) rfl) rfl
theorem mw1290 : (Jvm.Cond.instanceMethod ({ cls := "MarginnoteModel", name := "fails", desc := "(I)I" } : Jvm.MethodName)) ∈ GW := GW_6 0 (List.mem_of_getElem? (i := 90) rfl) rfl
theorem mw1291 : (Jvm.Cond.code ({ cls := "MarginnoteModel", name := "fails", desc := "(I)I" } : Jvm.MethodName) prog_8_method_3_code (2 : Nat) (Option.some Jvm.ClassFile.FieldType.int)) ∈ GW := GW_6 0 (List.mem_of_getElem? (i := 91) rfl) rfl
theorem mw1292 : (Jvm.Cond.methodLink "MarginnoteLaw" (170 : Nat) ({ cls := "MarginnoteModel", name := "erase", desc := "(I)I" } : Jvm.MethodName)) ∈ GW := GW_6 0 (List.mem_of_getElem? (i := 92) rfl) rfl
theorem mw1293 : (Jvm.Cond.instanceMethod ({ cls := "MarginnoteModel", name := "erase", desc := "(I)I" } : Jvm.MethodName)) ∈ GW := GW_6 0 (List.mem_of_getElem? (i := 93) rfl) rfl
theorem mw1294 : (Jvm.Cond.selects "MarginnoteModel" ({ cls := "MarginnoteModel", name := "erase", desc := "(I)I" } : Jvm.MethodName) ({ cls := "MarginnoteModel", name := "erase", desc := "(I)I" } : Jvm.MethodName)) ∈ GW := GW_6 0 (List.mem_of_getElem? (i := 94) rfl) rfl
theorem mw1295 : (Jvm.Cond.code ({ cls := "MarginnoteModel", name := "erase", desc := "(I)I" } : Jvm.MethodName) prog_8_method_36_code (7 : Nat) (Option.some Jvm.ClassFile.FieldType.int)) ∈ GW := GW_6 0 (List.mem_of_getElem? (i := 95) rfl) rfl
theorem mw1296 : (Jvm.Cond.methodLink "MarginnoteModel" (228 : Nat) ({ cls := "MarginnoteModel", name := "selected", desc := "(I)I" } : Jvm.MethodName)) ∈ GW := GW_6 0 (List.mem_of_getElem? (i := 96) rfl) rfl
theorem mw1298 : (Jvm.Cond.instanceMethod ({ cls := "MarginnoteModel", name := "selected", desc := "(I)I" } : Jvm.MethodName)) ∈ GW := GW_6 0 (List.mem_of_getElem? (i := 98) rfl) rfl
theorem mw1299 : (Jvm.Cond.code ({ cls := "MarginnoteModel", name := "selected", desc := "(I)I" } : Jvm.MethodName) prog_8_method_35_code (3 : Nat) (Option.some Jvm.ClassFile.FieldType.int)) ∈ GW := GW_6 0 (List.mem_of_getElem? (i := 99) rfl) rfl
theorem mw1300 : (Jvm.Cond.methodLink "MarginnoteModel" (225 : Nat) ({ cls := "MarginnoteModel", name := "placeOf", desc := "(I)I" } : Jvm.MethodName)) ∈ GW := GW_6 0 (List.mem_of_getElem? (i := 100) rfl) rfl
theorem mw1302 : (Jvm.Cond.instanceMethod ({ cls := "MarginnoteModel", name := "placeOf", desc := "(I)I" } : Jvm.MethodName)) ∈ GW := GW_6 0 (List.mem_of_getElem? (i := 102) rfl) rfl
theorem mw1303 : (Jvm.Cond.code ({ cls := "MarginnoteModel", name := "placeOf", desc := "(I)I" } : Jvm.MethodName) prog_8_method_28_code (5 : Nat) (Option.some Jvm.ClassFile.FieldType.int)) ∈ GW := GW_6 0 (List.mem_of_getElem? (i := 103) rfl) rfl
theorem mw1304 : (Jvm.Cond.methodLink "MarginnoteModel" (231 : Nat) ({ cls := "MarginnoteModel", name := "lower", desc := "(I)I" } : Jvm.MethodName)) ∈ GW := GW_6 0 (List.mem_of_getElem? (i := 104) rfl) rfl
theorem mw1306 : (Jvm.Cond.instanceMethod ({ cls := "MarginnoteModel", name := "lower", desc := "(I)I" } : Jvm.MethodName)) ∈ GW := GW_6 0 (List.mem_of_getElem? (i := 106) rfl) rfl
theorem mw1307 : (Jvm.Cond.code ({ cls := "MarginnoteModel", name := "lower", desc := "(I)I" } : Jvm.MethodName) prog_8_method_34_code (4 : Nat) (Option.some Jvm.ClassFile.FieldType.int)) ∈ GW := GW_6 0 (List.mem_of_getElem? (i := 107) rfl) rfl
theorem mw1308 : (Jvm.Cond.methodLink "MarginnoteModel" (234 : Nat) ({ cls := "MarginnoteModel", name := "seenAt", desc := "(I)I" } : Jvm.MethodName)) ∈ GW := GW_6 0 (List.mem_of_getElem? (i := 108) rfl) rfl
theorem mw1310 : (Jvm.Cond.instanceMethod ({ cls := "MarginnoteModel", name := "seenAt", desc := "(I)I" } : Jvm.MethodName)) ∈ GW := GW_6 0 (List.mem_of_getElem? (i := 110) rfl) rfl
theorem mw1311 : (Jvm.Cond.code ({ cls := "MarginnoteModel", name := "seenAt", desc := "(I)I" } : Jvm.MethodName) prog_8_method_27_code (4 : Nat) (Option.some Jvm.ClassFile.FieldType.int)) ∈ GW := GW_6 0 (List.mem_of_getElem? (i := 111) rfl) rfl
theorem mw1312 : (Jvm.Cond.methodLink "MarginnoteLaw" (174 : Nat) ({ cls := "MarginnoteModel", name := "moveTo", desc := "(II)I" } : Jvm.MethodName)) ∈ GW := GW_6 0 (List.mem_of_getElem? (i := 112) rfl) rfl
theorem mw1313 : (Jvm.Cond.instanceMethod ({ cls := "MarginnoteModel", name := "moveTo", desc := "(II)I" } : Jvm.MethodName)) ∈ GW := GW_6 0 (List.mem_of_getElem? (i := 113) rfl) rfl
theorem mw1314 : (Jvm.Cond.selects "MarginnoteModel" ({ cls := "MarginnoteModel", name := "moveTo", desc := "(II)I" } : Jvm.MethodName) ({ cls := "MarginnoteModel", name := "moveTo", desc := "(II)I" } : Jvm.MethodName)) ∈ GW := GW_6 0 (List.mem_of_getElem? (i := 114) rfl) rfl
theorem mw1315 : (Jvm.Cond.code ({ cls := "MarginnoteModel", name := "moveTo", desc := "(II)I" } : Jvm.MethodName) prog_8_method_37_code (4 : Nat) (Option.some Jvm.ClassFile.FieldType.int)) ∈ GW := GW_6 0 (List.mem_of_getElem? (i := 115) rfl) rfl
theorem mw1316 : (Jvm.Cond.methodLink "MarginnoteModel" (237 : Nat) ({ cls := "MarginnoteModel", name := "seen", desc := "()I" } : Jvm.MethodName)) ∈ GW := GW_6 0 (List.mem_of_getElem? (i := 116) rfl) rfl
theorem mw1318 : (Jvm.Cond.instanceMethod ({ cls := "MarginnoteModel", name := "seen", desc := "()I" } : Jvm.MethodName)) ∈ GW := GW_6 0 (List.mem_of_getElem? (i := 118) rfl) rfl
theorem mw1319 : (Jvm.Cond.code ({ cls := "MarginnoteModel", name := "seen", desc := "()I" } : Jvm.MethodName) prog_8_method_26_code (3 : Nat) (Option.some Jvm.ClassFile.FieldType.int)) ∈ GW := GW_6 0 (List.mem_of_getElem? (i := 119) rfl) rfl
theorem mw1320 : (Jvm.Cond.methodLink "MarginnoteLaw" (177 : Nat) ({ cls := "MarginnoteModel", name := "extend", desc := "(II)I" } : Jvm.MethodName)) ∈ GW := GW_6 0 (List.mem_of_getElem? (i := 120) rfl) rfl
theorem mw1321 : (Jvm.Cond.instanceMethod ({ cls := "MarginnoteModel", name := "extend", desc := "(II)I" } : Jvm.MethodName)) ∈ GW := GW_6 0 (List.mem_of_getElem? (i := 121) rfl) rfl
theorem mw1322 : (Jvm.Cond.selects "MarginnoteModel" ({ cls := "MarginnoteModel", name := "extend", desc := "(II)I" } : Jvm.MethodName) ({ cls := "MarginnoteModel", name := "extend", desc := "(II)I" } : Jvm.MethodName)) ∈ GW := GW_6 0 (List.mem_of_getElem? (i := 122) rfl) rfl
theorem mw1323 : (Jvm.Cond.code ({ cls := "MarginnoteModel", name := "extend", desc := "(II)I" } : Jvm.MethodName) prog_8_method_38_code (3 : Nat) (Option.some Jvm.ClassFile.FieldType.int)) ∈ GW := GW_6 0 (List.mem_of_getElem? (i := 123) rfl) rfl
theorem mw1324 : (Jvm.Cond.methodLink "MarginnoteLaw" (181 : Nat) ({ cls := "MarginnoteModel", name := "mark", desc := "(IIZ)I" } : Jvm.MethodName)) ∈ GW := GW_6 0 (List.mem_of_getElem? (i := 124) rfl) rfl
theorem mw1325 : (Jvm.Cond.instanceMethod ({ cls := "MarginnoteModel", name := "mark", desc := "(IIZ)I" } : Jvm.MethodName)) ∈ GW := GW_6 0 (List.mem_of_getElem? (i := 125) rfl) rfl
theorem mw1326 : (Jvm.Cond.selects "MarginnoteModel" ({ cls := "MarginnoteModel", name := "mark", desc := "(IIZ)I" } : Jvm.MethodName) ({ cls := "MarginnoteModel", name := "mark", desc := "(IIZ)I" } : Jvm.MethodName)) ∈ GW := GW_6 0 (List.mem_of_getElem? (i := 126) rfl) rfl
theorem mw1327 : (Jvm.Cond.code ({ cls := "MarginnoteModel", name := "mark", desc := "(IIZ)I" } : Jvm.MethodName) prog_8_method_39_code (5 : Nat) (Option.some Jvm.ClassFile.FieldType.int)) ∈ GW := GW_6 0 (List.mem_of_getElem? (i := 127) rfl) rfl
theorem mw1328 : (Jvm.Cond.methodLink "MarginnoteLaw" (184 : Nat) ({ cls := "MarginnoteModel", name := "comment", desc := "(I)I" } : Jvm.MethodName)) ∈ GW := GW_6 0 (List.mem_of_getElem? (i := 128) rfl) rfl
theorem mw1329 : (Jvm.Cond.instanceMethod ({ cls := "MarginnoteModel", name := "comment", desc := "(I)I" } : Jvm.MethodName)) ∈ GW := GW_6 0 (List.mem_of_getElem? (i := 129) rfl) rfl
theorem mw1330 : (Jvm.Cond.selects "MarginnoteModel" ({ cls := "MarginnoteModel", name := "comment", desc := "(I)I" } : Jvm.MethodName) ({ cls := "MarginnoteModel", name := "comment", desc := "(I)I" } : Jvm.MethodName)) ∈ GW := GW_6 0 (List.mem_of_getElem? (i := 130) rfl) rfl
theorem mw1331 : (Jvm.Cond.code ({ cls := "MarginnoteModel", name := "comment", desc := "(I)I" } : Jvm.MethodName) prog_8_method_40_code (3 : Nat) (Option.some Jvm.ClassFile.FieldType.int)) ∈ GW := GW_6 0 (List.mem_of_getElem? (i := 131) rfl) rfl
theorem mw1332 : (Jvm.Cond.methodLink "MarginnoteLaw" (188 : Nat) ({ cls := "MarginnoteModel", name := "setKind", desc := "(III)I" } : Jvm.MethodName)) ∈ GW := GW_6 0 (List.mem_of_getElem? (i := 132) rfl) rfl
theorem mw1333 : (Jvm.Cond.instanceMethod ({ cls := "MarginnoteModel", name := "setKind", desc := "(III)I" } : Jvm.MethodName)) ∈ GW := GW_6 0 (List.mem_of_getElem? (i := 133) rfl) rfl
theorem mw1334 : (Jvm.Cond.selects "MarginnoteModel" ({ cls := "MarginnoteModel", name := "setKind", desc := "(III)I" } : Jvm.MethodName) ({ cls := "MarginnoteModel", name := "setKind", desc := "(III)I" } : Jvm.MethodName)) ∈ GW := GW_6 0 (List.mem_of_getElem? (i := 134) rfl) rfl
theorem mw1335 : (Jvm.Cond.code ({ cls := "MarginnoteModel", name := "setKind", desc := "(III)I" } : Jvm.MethodName) prog_8_method_44_code (4 : Nat) (Option.some Jvm.ClassFile.FieldType.int)) ∈ GW := GW_6 0 (List.mem_of_getElem? (i := 135) rfl) rfl
theorem mw1336 : (Jvm.Cond.methodLink "MarginnoteModel" (247 : Nat) ({ cls := "MarginnoteModel", name := "isBlock", desc := "(II)Z" } : Jvm.MethodName)) ∈ GW := GW_6 0 (List.mem_of_getElem? (i := 136) rfl) rfl
theorem mw1338 : (Jvm.Cond.instanceMethod ({ cls := "MarginnoteModel", name := "isBlock", desc := "(II)Z" } : Jvm.MethodName)) ∈ GW := GW_6 0 (List.mem_of_getElem? (i := 138) rfl) rfl
theorem mw1339 : (Jvm.Cond.code ({ cls := "MarginnoteModel", name := "isBlock", desc := "(II)Z" } : Jvm.MethodName) prog_8_method_43_code (3 : Nat) (Option.some Jvm.ClassFile.FieldType.boolean)) ∈ GW := GW_6 0 (List.mem_of_getElem? (i := 139) rfl) rfl
theorem mw1340 : (Jvm.Cond.methodLink "MarginnoteModel" (244 : Nat) ({ cls := "MarginnoteModel", name := "shownBlocks", desc := "()I" } : Jvm.MethodName)) ∈ GW := GW_6 0 (List.mem_of_getElem? (i := 140) rfl) rfl
theorem mw1342 : (Jvm.Cond.instanceMethod ({ cls := "MarginnoteModel", name := "shownBlocks", desc := "()I" } : Jvm.MethodName)) ∈ GW := GW_6 0 (List.mem_of_getElem? (i := 142) rfl) rfl
theorem mw1343 : (Jvm.Cond.code ({ cls := "MarginnoteModel", name := "shownBlocks", desc := "()I" } : Jvm.MethodName) prog_8_method_41_code (3 : Nat) (Option.some Jvm.ClassFile.FieldType.int)) ∈ GW := GW_6 0 (List.mem_of_getElem? (i := 143) rfl) rfl
theorem mw1344 : (Jvm.Cond.methodLink "MarginnoteModel" (250 : Nat) ({ cls := "MarginnoteModel", name := "blockNumber", desc := "(I)I" } : Jvm.MethodName)) ∈ GW := GW_6 0 (List.mem_of_getElem? (i := 144) rfl) rfl
theorem mw1346 : (Jvm.Cond.instanceMethod ({ cls := "MarginnoteModel", name := "blockNumber", desc := "(I)I" } : Jvm.MethodName)) ∈ GW := GW_6 0 (List.mem_of_getElem? (i := 146) rfl) rfl
theorem mw1347 : (Jvm.Cond.code ({ cls := "MarginnoteModel", name := "blockNumber", desc := "(I)I" } : Jvm.MethodName) prog_8_method_42_code (5 : Nat) (Option.some Jvm.ClassFile.FieldType.int)) ∈ GW := GW_6 0 (List.mem_of_getElem? (i := 147) rfl) rfl
theorem mw1348 : (Jvm.Cond.methodLink "MarginnoteLaw" (191 : Nat) ({ cls := "MarginnoteModel", name := "nest", desc := "(III)I" } : Jvm.MethodName)) ∈ GW := GW_6 0 (List.mem_of_getElem? (i := 148) rfl) rfl
theorem mw1349 : (Jvm.Cond.instanceMethod ({ cls := "MarginnoteModel", name := "nest", desc := "(III)I" } : Jvm.MethodName)) ∈ GW := GW_6 0 (List.mem_of_getElem? (i := 149) rfl) rfl
theorem mw1350 : (Jvm.Cond.selects "MarginnoteModel" ({ cls := "MarginnoteModel", name := "nest", desc := "(III)I" } : Jvm.MethodName) ({ cls := "MarginnoteModel", name := "nest", desc := "(III)I" } : Jvm.MethodName)) ∈ GW := GW_6 0 (List.mem_of_getElem? (i := 150) rfl) rfl
theorem mw1351 : (Jvm.Cond.code ({ cls := "MarginnoteModel", name := "nest", desc := "(III)I" } : Jvm.MethodName) prog_8_method_45_code (4 : Nat) (Option.some Jvm.ClassFile.FieldType.int)) ∈ GW := GW_6 0 (List.mem_of_getElem? (i := 151) rfl) rfl
theorem mw1352 : (Jvm.Cond.methodLink "MarginnoteLaw" (195 : Nat) ({ cls := "MarginnoteModel", name := "propose", desc := "(IZ)Z" } : Jvm.MethodName)) ∈ GW := GW_6 0 (List.mem_of_getElem? (i := 152) rfl) rfl
theorem mw1353 : (Jvm.Cond.instanceMethod ({ cls := "MarginnoteModel", name := "propose", desc := "(IZ)Z" } : Jvm.MethodName)) ∈ GW := GW_6 0 (List.mem_of_getElem? (i := 153) rfl) rfl
theorem mw1354 : (Jvm.Cond.selects "MarginnoteModel" ({ cls := "MarginnoteModel", name := "propose", desc := "(IZ)Z" } : Jvm.MethodName) ({ cls := "MarginnoteModel", name := "propose", desc := "(IZ)Z" } : Jvm.MethodName)) ∈ GW := GW_6 0 (List.mem_of_getElem? (i := 154) rfl) rfl
theorem mw1355 : (Jvm.Cond.code ({ cls := "MarginnoteModel", name := "propose", desc := "(IZ)Z" } : Jvm.MethodName) prog_8_method_46_code (4 : Nat) (Option.some Jvm.ClassFile.FieldType.boolean)) ∈ GW := GW_6 0 (List.mem_of_getElem? (i := 155) rfl) rfl
theorem mw1356 : (Jvm.Cond.methodLink "MarginnoteLaw" (198 : Nat) ({ cls := "MarginnoteModel", name := "decide", desc := "(IIZ)I" } : Jvm.MethodName)) ∈ GW := GW_6 0 (List.mem_of_getElem? (i := 156) rfl) rfl
theorem mw1357 : (Jvm.Cond.instanceMethod ({ cls := "MarginnoteModel", name := "decide", desc := "(IIZ)I" } : Jvm.MethodName)) ∈ GW := GW_6 0 (List.mem_of_getElem? (i := 157) rfl) rfl
theorem mw1358 : (Jvm.Cond.selects "MarginnoteModel" ({ cls := "MarginnoteModel", name := "decide", desc := "(IIZ)I" } : Jvm.MethodName) ({ cls := "MarginnoteModel", name := "decide", desc := "(IIZ)I" } : Jvm.MethodName)) ∈ GW := GW_6 0 (List.mem_of_getElem? (i := 158) rfl) rfl
theorem mw1359 : (Jvm.Cond.code ({ cls := "MarginnoteModel", name := "decide", desc := "(IIZ)I" } : Jvm.MethodName) prog_8_method_47_code (5 : Nat) (Option.some Jvm.ClassFile.FieldType.int)) ∈ GW := GW_6 0 (List.mem_of_getElem? (i := 159) rfl) rfl
theorem mw1360 : (Jvm.Cond.methodLink "MarginnoteModel" (253 : Nat) ({ cls := "MarginnoteModel", name := "hasAct", desc := "(II)Z" } : Jvm.MethodName)) ∈ GW := GW_6 0 (List.mem_of_getElem? (i := 160) rfl) rfl
theorem mw1362 : (Jvm.Cond.instanceMethod ({ cls := "MarginnoteModel", name := "hasAct", desc := "(II)Z" } : Jvm.MethodName)) ∈ GW := GW_6 0 (List.mem_of_getElem? (i := 162) rfl) rfl
theorem mw1363 : (Jvm.Cond.code ({ cls := "MarginnoteModel", name := "hasAct", desc := "(II)Z" } : Jvm.MethodName) prog_8_method_6_code (3 : Nat) (Option.some Jvm.ClassFile.FieldType.boolean)) ∈ GW := GW_6 0 (List.mem_of_getElem? (i := 163) rfl) rfl
theorem mw1364 : (Jvm.Cond.methodLink "MarginnoteLaw" (201 : Nat) ({ cls := "MarginnoteModel", name := "allow", desc := "(III)I" } : Jvm.MethodName)) ∈ GW := GW_6 0 (List.mem_of_getElem? (i := 164) rfl) rfl
theorem mw1365 : (Jvm.Cond.instanceMethod ({ cls := "MarginnoteModel", name := "allow", desc := "(III)I" } : Jvm.MethodName)) ∈ GW := GW_6 0 (List.mem_of_getElem? (i := 165) rfl) rfl
theorem mw1366 : (Jvm.Cond.selects "MarginnoteModel" ({ cls := "MarginnoteModel", name := "allow", desc := "(III)I" } : Jvm.MethodName) ({ cls := "MarginnoteModel", name := "allow", desc := "(III)I" } : Jvm.MethodName)) ∈ GW := GW_6 0 (List.mem_of_getElem? (i := 166) rfl) rfl
theorem mw1367 : (Jvm.Cond.code ({ cls := "MarginnoteModel", name := "allow", desc := "(III)I" } : Jvm.MethodName) prog_8_method_48_code (4 : Nat) (Option.some Jvm.ClassFile.FieldType.int)) ∈ GW := GW_6 0 (List.mem_of_getElem? (i := 167) rfl) rfl
theorem mw1368 : (Jvm.Cond.methodLink "MarginnoteLaw" (204 : Nat) ({ cls := "MarginnoteModel", name := "undo", desc := "(I)I" } : Jvm.MethodName)) ∈ GW := GW_6 0 (List.mem_of_getElem? (i := 168) rfl) rfl
theorem mw1369 : (Jvm.Cond.instanceMethod ({ cls := "MarginnoteModel", name := "undo", desc := "(I)I" } : Jvm.MethodName)) ∈ GW := GW_6 0 (List.mem_of_getElem? (i := 169) rfl) rfl
theorem mw1370 : (Jvm.Cond.selects "MarginnoteModel" ({ cls := "MarginnoteModel", name := "undo", desc := "(I)I" } : Jvm.MethodName) ({ cls := "MarginnoteModel", name := "undo", desc := "(I)I" } : Jvm.MethodName)) ∈ GW := GW_6 0 (List.mem_of_getElem? (i := 170) rfl) rfl
theorem mw1371 : (Jvm.Cond.code ({ cls := "MarginnoteModel", name := "undo", desc := "(I)I" } : Jvm.MethodName) prog_8_method_49_code (5 : Nat) (Option.some Jvm.ClassFile.FieldType.int)) ∈ GW := GW_6 0 (List.mem_of_getElem? (i := 171) rfl) rfl
theorem mw1372 : (Jvm.Cond.methodLink "MarginnoteLaw" (207 : Nat) ({ cls := "MarginnoteModel", name := "redo", desc := "(I)I" } : Jvm.MethodName)) ∈ GW := GW_6 0 (List.mem_of_getElem? (i := 172) rfl) rfl
theorem mw1373 : (Jvm.Cond.instanceMethod ({ cls := "MarginnoteModel", name := "redo", desc := "(I)I" } : Jvm.MethodName)) ∈ GW := GW_6 0 (List.mem_of_getElem? (i := 173) rfl) rfl
theorem mw1374 : (Jvm.Cond.selects "MarginnoteModel" ({ cls := "MarginnoteModel", name := "redo", desc := "(I)I" } : Jvm.MethodName) ({ cls := "MarginnoteModel", name := "redo", desc := "(I)I" } : Jvm.MethodName)) ∈ GW := GW_6 0 (List.mem_of_getElem? (i := 174) rfl) rfl
theorem mw1375 : (Jvm.Cond.code ({ cls := "MarginnoteModel", name := "redo", desc := "(I)I" } : Jvm.MethodName) prog_8_method_50_code (6 : Nat) (Option.some Jvm.ClassFile.FieldType.int)) ∈ GW := GW_6 0 (List.mem_of_getElem? (i := 175) rfl) rfl
theorem mw1376 : (Jvm.Cond.methodLink "MarginnoteLaw" (210 : Nat) ({ cls := "MarginnoteModel", name := "send", desc := "(II)I" } : Jvm.MethodName)) ∈ GW := GW_6 0 (List.mem_of_getElem? (i := 176) rfl) rfl
theorem mw1377 : (Jvm.Cond.instanceMethod ({ cls := "MarginnoteModel", name := "send", desc := "(II)I" } : Jvm.MethodName)) ∈ GW := GW_6 0 (List.mem_of_getElem? (i := 177) rfl) rfl
theorem mw1378 : (Jvm.Cond.selects "MarginnoteModel" ({ cls := "MarginnoteModel", name := "send", desc := "(II)I" } : Jvm.MethodName) ({ cls := "MarginnoteModel", name := "send", desc := "(II)I" } : Jvm.MethodName)) ∈ GW := GW_6 0 (List.mem_of_getElem? (i := 178) rfl) rfl
theorem mw1379 : (Jvm.Cond.code ({ cls := "MarginnoteModel", name := "send", desc := "(II)I" } : Jvm.MethodName) prog_8_method_53_code (5 : Nat) (Option.some Jvm.ClassFile.FieldType.int)) ∈ GW := GW_6 0 (List.mem_of_getElem? (i := 179) rfl) rfl
theorem mw1380 : (Jvm.Cond.methodLink "MarginnoteModel" (262 : Nat) ({ cls := "MarginnoteModel", name := "knowsOf", desc := "(III)Z" } : Jvm.MethodName)) ∈ GW := GW_6 0 (List.mem_of_getElem? (i := 180) rfl) rfl
theorem mw1382 : (Jvm.Cond.instanceMethod ({ cls := "MarginnoteModel", name := "knowsOf", desc := "(III)Z" } : Jvm.MethodName)) ∈ GW := GW_6 0 (List.mem_of_getElem? (i := 182) rfl) rfl
theorem mw1383 : (Jvm.Cond.code ({ cls := "MarginnoteModel", name := "knowsOf", desc := "(III)Z" } : Jvm.MethodName) prog_8_method_52_code (4 : Nat) (Option.some Jvm.ClassFile.FieldType.boolean)) ∈ GW := GW_6 0 (List.mem_of_getElem? (i := 183) rfl) rfl
theorem mw1384 : (Jvm.Cond.methodLink "MarginnoteModel" (256 : Nat) ({ cls := "MarginnoteModel", name := "isSafe", desc := "(II)Z" } : Jvm.MethodName)) ∈ GW := GW_6 0 (List.mem_of_getElem? (i := 184) rfl) rfl
theorem mw1386 : (Jvm.Cond.instanceMethod ({ cls := "MarginnoteModel", name := "isSafe", desc := "(II)Z" } : Jvm.MethodName)) ∈ GW := GW_6 0 (List.mem_of_getElem? (i := 186) rfl) rfl
theorem mw1387 : (Jvm.Cond.code ({ cls := "MarginnoteModel", name := "isSafe", desc := "(II)Z" } : Jvm.MethodName) prog_8_method_51_code (5 : Nat) (Option.some Jvm.ClassFile.FieldType.boolean)) ∈ GW := GW_6 0 (List.mem_of_getElem? (i := 187) rfl) rfl
theorem mw1388 : (Jvm.Cond.methodLink "MarginnoteLaw" (213 : Nat) ({ cls := "MarginnoteModel", name := "deliver", desc := "(I)I" } : Jvm.MethodName)) ∈ GW := GW_6 0 (List.mem_of_getElem? (i := 188) rfl) rfl
theorem mw1389 : (Jvm.Cond.instanceMethod ({ cls := "MarginnoteModel", name := "deliver", desc := "(I)I" } : Jvm.MethodName)) ∈ GW := GW_6 0 (List.mem_of_getElem? (i := 189) rfl) rfl
theorem mw1390 : (Jvm.Cond.selects "MarginnoteModel" ({ cls := "MarginnoteModel", name := "deliver", desc := "(I)I" } : Jvm.MethodName) ({ cls := "MarginnoteModel", name := "deliver", desc := "(I)I" } : Jvm.MethodName)) ∈ GW := GW_6 0 (List.mem_of_getElem? (i := 190) rfl) rfl
theorem mw1391 : (Jvm.Cond.code ({ cls := "MarginnoteModel", name := "deliver", desc := "(I)I" } : Jvm.MethodName) prog_8_method_54_code (5 : Nat) (Option.some Jvm.ClassFile.FieldType.int)) ∈ GW := GW_6 0 (List.mem_of_getElem? (i := 191) rfl) rfl
theorem mw1392 : (Jvm.Cond.methodLink "MarginnoteLaw" (216 : Nat) ({ cls := "MarginnoteModel", name := "save", desc := "(I)I" } : Jvm.MethodName)) ∈ GW := GW_6 0 (List.mem_of_getElem? (i := 192) rfl) rfl
theorem mw1393 : (Jvm.Cond.instanceMethod ({ cls := "MarginnoteModel", name := "save", desc := "(I)I" } : Jvm.MethodName)) ∈ GW := GW_6 0 (List.mem_of_getElem? (i := 193) rfl) rfl
theorem mw1394 : (Jvm.Cond.selects "MarginnoteModel" ({ cls := "MarginnoteModel", name := "save", desc := "(I)I" } : Jvm.MethodName) ({ cls := "MarginnoteModel", name := "save", desc := "(I)I" } : Jvm.MethodName)) ∈ GW := GW_6 0 (List.mem_of_getElem? (i := 194) rfl) rfl
theorem mw1395 : (Jvm.Cond.code ({ cls := "MarginnoteModel", name := "save", desc := "(I)I" } : Jvm.MethodName) prog_8_method_55_code (3 : Nat) (Option.some Jvm.ClassFile.FieldType.int)) ∈ GW := GW_6 0 (List.mem_of_getElem? (i := 195) rfl) rfl
theorem mw1396 : (Jvm.Cond.methodLink "MarginnoteLaw" (219 : Nat) ({ cls := "MarginnoteModel", name := "crash", desc := "(II)I" } : Jvm.MethodName)) ∈ GW := GW_6 0 (List.mem_of_getElem? (i := 196) rfl) rfl
theorem mw1397 : (Jvm.Cond.instanceMethod ({ cls := "MarginnoteModel", name := "crash", desc := "(II)I" } : Jvm.MethodName)) ∈ GW := GW_6 0 (List.mem_of_getElem? (i := 197) rfl) rfl
theorem mw1398 : (Jvm.Cond.selects "MarginnoteModel" ({ cls := "MarginnoteModel", name := "crash", desc := "(II)I" } : Jvm.MethodName) ({ cls := "MarginnoteModel", name := "crash", desc := "(II)I" } : Jvm.MethodName)) ∈ GW := GW_6 0 (List.mem_of_getElem? (i := 198) rfl) rfl
theorem mw1399 : (Jvm.Cond.code ({ cls := "MarginnoteModel", name := "crash", desc := "(II)I" } : Jvm.MethodName) prog_8_method_56_code (5 : Nat) (Option.some Jvm.ClassFile.FieldType.int)) ∈ GW := GW_6 0 (List.mem_of_getElem? (i := 199) rfl) rfl
theorem mw1400 : (Jvm.Cond.methodLink "MarginnoteLaw" (222 : Nat) ({ cls := "MarginnoteModel", name := "name", desc := "(I)I" } : Jvm.MethodName)) ∈ GW := GW_6 0 (List.mem_of_getElem? (i := 200) rfl) rfl
theorem mw1401 : (Jvm.Cond.instanceMethod ({ cls := "MarginnoteModel", name := "name", desc := "(I)I" } : Jvm.MethodName)) ∈ GW := GW_6 0 (List.mem_of_getElem? (i := 201) rfl) rfl
theorem mw1402 : (Jvm.Cond.selects "MarginnoteModel" ({ cls := "MarginnoteModel", name := "name", desc := "(I)I" } : Jvm.MethodName) ({ cls := "MarginnoteModel", name := "name", desc := "(I)I" } : Jvm.MethodName)) ∈ GW := GW_6 0 (List.mem_of_getElem? (i := 202) rfl) rfl
theorem mw1403 : (Jvm.Cond.code ({ cls := "MarginnoteModel", name := "name", desc := "(I)I" } : Jvm.MethodName) prog_8_method_57_code (3 : Nat) (Option.some Jvm.ClassFile.FieldType.int)) ∈ GW := GW_6 0 (List.mem_of_getElem? (i := 203) rfl) rfl
theorem mw1404 : (Jvm.Cond.methodLink "MarginnoteLaw" (225 : Nat) ({ cls := "MarginnoteModel", name := "bringBack", desc := "(II)I" } : Jvm.MethodName)) ∈ GW := GW_6 0 (List.mem_of_getElem? (i := 204) rfl) rfl
theorem mw1405 : (Jvm.Cond.instanceMethod ({ cls := "MarginnoteModel", name := "bringBack", desc := "(II)I" } : Jvm.MethodName)) ∈ GW := GW_6 0 (List.mem_of_getElem? (i := 205) rfl) rfl
theorem mw1406 : (Jvm.Cond.selects "MarginnoteModel" ({ cls := "MarginnoteModel", name := "bringBack", desc := "(II)I" } : Jvm.MethodName) ({ cls := "MarginnoteModel", name := "bringBack", desc := "(II)I" } : Jvm.MethodName)) ∈ GW := GW_6 0 (List.mem_of_getElem? (i := 206) rfl) rfl
theorem mw1407 : (Jvm.Cond.code ({ cls := "MarginnoteModel", name := "bringBack", desc := "(II)I" } : Jvm.MethodName) prog_8_method_60_code (7 : Nat) (Option.some Jvm.ClassFile.FieldType.int)) ∈ GW := GW_6 0 (List.mem_of_getElem? (i := 207) rfl) rfl
theorem mw1408 : (Jvm.Cond.methodLink "MarginnoteModel" (268 : Nat) ({ cls := "MarginnoteModel", name := "isVersion", desc := "(I)Z" } : Jvm.MethodName)) ∈ GW := GW_6 0 (List.mem_of_getElem? (i := 208) rfl) rfl
theorem mw1410 : (Jvm.Cond.instanceMethod ({ cls := "MarginnoteModel", name := "isVersion", desc := "(I)Z" } : Jvm.MethodName)) ∈ GW := GW_6 0 (List.mem_of_getElem? (i := 210) rfl) rfl
theorem mw1411 : (Jvm.Cond.code ({ cls := "MarginnoteModel", name := "isVersion", desc := "(I)Z" } : Jvm.MethodName) prog_8_method_58_code (2 : Nat) (Option.some Jvm.ClassFile.FieldType.boolean)) ∈ GW := GW_6 0 (List.mem_of_getElem? (i := 211) rfl) rfl
theorem mw1412 : (Jvm.Cond.methodLink "MarginnoteModel" (271 : Nat) ({ cls := "MarginnoteModel", name := "keeps", desc := "(I)V" } : Jvm.MethodName)) ∈ GW := GW_6 0 (List.mem_of_getElem? (i := 212) rfl) rfl
theorem mw1414 : (Jvm.Cond.instanceMethod ({ cls := "MarginnoteModel", name := "keeps", desc := "(I)V" } : Jvm.MethodName)) ∈ GW := GW_6 0 (List.mem_of_getElem? (i := 214) rfl) rfl
theorem mw1415 : (Jvm.Cond.code ({ cls := "MarginnoteModel", name := "keeps", desc := "(I)V" } : Jvm.MethodName) prog_8_method_59_code (3 : Nat) (Option.none : Option Jvm.ClassFile.FieldType)) ∈ GW := GW_6 0 (List.mem_of_getElem? (i := 215) rfl) rfl
theorem mw1416 : (Jvm.Cond.methodLink "MarginnoteLaw" (228 : Nat) ({ cls := "MarginnoteModel", name := "differ", desc := "(II)I" } : Jvm.MethodName)) ∈ GW := GW_6 0 (List.mem_of_getElem? (i := 216) rfl) rfl
theorem mw1417 : (Jvm.Cond.instanceMethod ({ cls := "MarginnoteModel", name := "differ", desc := "(II)I" } : Jvm.MethodName)) ∈ GW := GW_6 0 (List.mem_of_getElem? (i := 217) rfl) rfl
theorem mw1418 : (Jvm.Cond.selects "MarginnoteModel" ({ cls := "MarginnoteModel", name := "differ", desc := "(II)I" } : Jvm.MethodName) ({ cls := "MarginnoteModel", name := "differ", desc := "(II)I" } : Jvm.MethodName)) ∈ GW := GW_6 0 (List.mem_of_getElem? (i := 218) rfl) rfl
theorem mw1419 : (Jvm.Cond.code ({ cls := "MarginnoteModel", name := "differ", desc := "(II)I" } : Jvm.MethodName) prog_8_method_61_code (6 : Nat) (Option.some Jvm.ClassFile.FieldType.int)) ∈ GW := GW_6 0 (List.mem_of_getElem? (i := 219) rfl) rfl
theorem mw1420 : (Jvm.Cond.methodLink "MarginnoteLaw" (231 : Nat) ({ cls := "MarginnoteModel", name := "length", desc := "(I)I" } : Jvm.MethodName)) ∈ GW := GW_6 0 (List.mem_of_getElem? (i := 220) rfl) rfl
theorem mw1421 : (Jvm.Cond.instanceMethod ({ cls := "MarginnoteModel", name := "length", desc := "(I)I" } : Jvm.MethodName)) ∈ GW := GW_6 0 (List.mem_of_getElem? (i := 221) rfl) rfl
theorem mw1422 : (Jvm.Cond.selects "MarginnoteModel" ({ cls := "MarginnoteModel", name := "length", desc := "(I)I" } : Jvm.MethodName) ({ cls := "MarginnoteModel", name := "length", desc := "(I)I" } : Jvm.MethodName)) ∈ GW := GW_6 0 (List.mem_of_getElem? (i := 222) rfl) rfl
theorem mw1423 : (Jvm.Cond.code ({ cls := "MarginnoteModel", name := "length", desc := "(I)I" } : Jvm.MethodName) prog_8_method_62_code (2 : Nat) (Option.some Jvm.ClassFile.FieldType.int)) ∈ GW := GW_6 0 (List.mem_of_getElem? (i := 223) rfl) rfl
theorem mw1424 : (Jvm.Cond.methodLink "MarginnoteLaw" (234 : Nat) ({ cls := "MarginnoteModel", name := "shown", desc := "(I)I" } : Jvm.MethodName)) ∈ GW := GW_6 0 (List.mem_of_getElem? (i := 224) rfl) rfl
theorem mw1425 : (Jvm.Cond.instanceMethod ({ cls := "MarginnoteModel", name := "shown", desc := "(I)I" } : Jvm.MethodName)) ∈ GW := GW_6 0 (List.mem_of_getElem? (i := 225) rfl) rfl
theorem mw1426 : (Jvm.Cond.selects "MarginnoteModel" ({ cls := "MarginnoteModel", name := "shown", desc := "(I)I" } : Jvm.MethodName) ({ cls := "MarginnoteModel", name := "shown", desc := "(I)I" } : Jvm.MethodName)) ∈ GW := GW_6 0 (List.mem_of_getElem? (i := 226) rfl) rfl
theorem mw1427 : (Jvm.Cond.code ({ cls := "MarginnoteModel", name := "shown", desc := "(I)I" } : Jvm.MethodName) prog_8_method_63_code (4 : Nat) (Option.some Jvm.ClassFile.FieldType.int)) ∈ GW := GW_6 0 (List.mem_of_getElem? (i := 227) rfl) rfl
theorem mw1428 : (Jvm.Cond.methodLink "MarginnoteLaw" (237 : Nat) ({ cls := "MarginnoteModel", name := "element", desc := "(II)I" } : Jvm.MethodName)) ∈ GW := GW_6 0 (List.mem_of_getElem? (i := 228) rfl) rfl
theorem mw1429 : (Jvm.Cond.instanceMethod ({ cls := "MarginnoteModel", name := "element", desc := "(II)I" } : Jvm.MethodName)) ∈ GW := GW_6 0 (List.mem_of_getElem? (i := 229) rfl) rfl
theorem mw1430 : (Jvm.Cond.selects "MarginnoteModel" ({ cls := "MarginnoteModel", name := "element", desc := "(II)I" } : Jvm.MethodName) ({ cls := "MarginnoteModel", name := "element", desc := "(II)I" } : Jvm.MethodName)) ∈ GW := GW_6 0 (List.mem_of_getElem? (i := 230) rfl) rfl
theorem mw1431 : (Jvm.Cond.code ({ cls := "MarginnoteModel", name := "element", desc := "(II)I" } : Jvm.MethodName) prog_8_method_65_code (3 : Nat) (Option.some Jvm.ClassFile.FieldType.int)) ∈ GW := GW_6 0 (List.mem_of_getElem? (i := 231) rfl) rfl
theorem mw1432 : (Jvm.Cond.methodLink "MarginnoteModel" (274 : Nat) ({ cls := "MarginnoteModel", name := "isPlace", desc := "(II)Z" } : Jvm.MethodName)) ∈ GW := GW_6 0 (List.mem_of_getElem? (i := 232) rfl) rfl
theorem mw1434 : (Jvm.Cond.instanceMethod ({ cls := "MarginnoteModel", name := "isPlace", desc := "(II)Z" } : Jvm.MethodName)) ∈ GW := GW_6 0 (List.mem_of_getElem? (i := 234) rfl) rfl
theorem mw1435 : (Jvm.Cond.code ({ cls := "MarginnoteModel", name := "isPlace", desc := "(II)Z" } : Jvm.MethodName) prog_8_method_64_code (3 : Nat) (Option.some Jvm.ClassFile.FieldType.boolean)) ∈ GW := GW_6 0 (List.mem_of_getElem? (i := 235) rfl) rfl
theorem mw1436 : (Jvm.Cond.methodLink "MarginnoteLaw" (240 : Nat) ({ cls := "MarginnoteModel", name := "elementAnew", desc := "(II)I" } : Jvm.MethodName)) ∈ GW := GW_6 0 (List.mem_of_getElem? (i := 236) rfl) rfl
theorem mw1437 : (Jvm.Cond.instanceMethod ({ cls := "MarginnoteModel", name := "elementAnew", desc := "(II)I" } : Jvm.MethodName)) ∈ GW := GW_6 0 (List.mem_of_getElem? (i := 237) rfl) rfl
theorem mw1438 : (Jvm.Cond.selects "MarginnoteModel" ({ cls := "MarginnoteModel", name := "elementAnew", desc := "(II)I" } : Jvm.MethodName) ({ cls := "MarginnoteModel", name := "elementAnew", desc := "(II)I" } : Jvm.MethodName)) ∈ GW := GW_6 0 (List.mem_of_getElem? (i := 238) rfl) rfl
theorem mw1439 : (Jvm.Cond.code ({ cls := "MarginnoteModel", name := "elementAnew", desc := "(II)I" } : Jvm.MethodName) prog_8_method_66_code (3 : Nat) (Option.some Jvm.ClassFile.FieldType.int)) ∈ GW := GW_6 0 (List.mem_of_getElem? (i := 239) rfl) rfl
theorem mw1440 : (Jvm.Cond.methodLink "MarginnoteModel" (277 : Nat) ({ cls := "MarginnoteModel", name := "element", desc := "(II)I" } : Jvm.MethodName)) ∈ GW := GW_7 0 (List.mem_of_getElem? (i := 0) rfl) rfl
theorem mw1441 : (Jvm.Cond.methodLink "MarginnoteLaw" (243 : Nat) ({ cls := "MarginnoteModel", name := "letter", desc := "(II)C" } : Jvm.MethodName)) ∈ GW := GW_7 0 (List.mem_of_getElem? (i := 1) rfl) rfl
theorem mw1442 : (Jvm.Cond.instanceMethod ({ cls := "MarginnoteModel", name := "letter", desc := "(II)C" } : Jvm.MethodName)) ∈ GW := GW_7 0 (List.mem_of_getElem? (i := 2) rfl) rfl
theorem mw1443 : (Jvm.Cond.selects "MarginnoteModel" ({ cls := "MarginnoteModel", name := "letter", desc := "(II)C" } : Jvm.MethodName) ({ cls := "MarginnoteModel", name := "letter", desc := "(II)C" } : Jvm.MethodName)) ∈ GW := GW_7 0 (List.mem_of_getElem? (i := 3) rfl) rfl
theorem mw1444 : (Jvm.Cond.code ({ cls := "MarginnoteModel", name := "letter", desc := "(II)C" } : Jvm.MethodName) prog_8_method_67_code (3 : Nat) (Option.some Jvm.ClassFile.FieldType.char)) ∈ GW := GW_7 0 (List.mem_of_getElem? (i := 4) rfl) rfl
theorem mw1445 : (Jvm.Cond.methodLink "MarginnoteLaw" (246 : Nat) ({ cls := "MarginnoteModel", name := "proposed", desc := "(II)I" } : Jvm.MethodName)) ∈ GW := GW_7 0 (List.mem_of_getElem? (i := 5) rfl) rfl
theorem mw1446 : (Jvm.Cond.instanceMethod ({ cls := "MarginnoteModel", name := "proposed", desc := "(II)I" } : Jvm.MethodName)) ∈ GW := GW_7 0 (List.mem_of_getElem? (i := 6) rfl) rfl
theorem mw1447 : (Jvm.Cond.selects "MarginnoteModel" ({ cls := "MarginnoteModel", name := "proposed", desc := "(II)I" } : Jvm.MethodName) ({ cls := "MarginnoteModel", name := "proposed", desc := "(II)I" } : Jvm.MethodName)) ∈ GW := GW_7 0 (List.mem_of_getElem? (i := 7) rfl) rfl
theorem mw1448 : (Jvm.Cond.code ({ cls := "MarginnoteModel", name := "proposed", desc := "(II)I" } : Jvm.MethodName) prog_8_method_68_code (6 : Nat) (Option.some Jvm.ClassFile.FieldType.int)) ∈ GW := GW_7 0 (List.mem_of_getElem? (i := 8) rfl) rfl
theorem mw1449 : (Jvm.Cond.methodLink "MarginnoteLaw" (249 : Nat) ({ cls := "MarginnoteModel", name := "open", desc := "(I)I" } : Jvm.MethodName)) ∈ GW := GW_7 0 (List.mem_of_getElem? (i := 9) rfl) rfl
theorem mw1450 : (Jvm.Cond.instanceMethod ({ cls := "MarginnoteModel", name := "open", desc := "(I)I" } : Jvm.MethodName)) ∈ GW := GW_7 0 (List.mem_of_getElem? (i := 10) rfl) rfl
theorem mw1451 : (Jvm.Cond.selects "MarginnoteModel" ({ cls := "MarginnoteModel", name := "open", desc := "(I)I" } : Jvm.MethodName) ({ cls := "MarginnoteModel", name := "open", desc := "(I)I" } : Jvm.MethodName)) ∈ GW := GW_7 0 (List.mem_of_getElem? (i := 11) rfl) rfl
theorem mw1452 : (Jvm.Cond.code ({ cls := "MarginnoteModel", name := "open", desc := "(I)I" } : Jvm.MethodName) prog_8_method_69_code (4 : Nat) (Option.some Jvm.ClassFile.FieldType.int)) ∈ GW := GW_7 0 (List.mem_of_getElem? (i := 12) rfl) rfl
theorem mw1453 : (Jvm.Cond.methodLink "MarginnoteLaw" (252 : Nat) ({ cls := "MarginnoteModel", name := "isMarked", desc := "(III)Z" } : Jvm.MethodName)) ∈ GW := GW_7 0 (List.mem_of_getElem? (i := 13) rfl) rfl
theorem mw1454 : (Jvm.Cond.instanceMethod ({ cls := "MarginnoteModel", name := "isMarked", desc := "(III)Z" } : Jvm.MethodName)) ∈ GW := GW_7 0 (List.mem_of_getElem? (i := 14) rfl) rfl
theorem mw1455 : (Jvm.Cond.selects "MarginnoteModel" ({ cls := "MarginnoteModel", name := "isMarked", desc := "(III)Z" } : Jvm.MethodName) ({ cls := "MarginnoteModel", name := "isMarked", desc := "(III)Z" } : Jvm.MethodName)) ∈ GW := GW_7 0 (List.mem_of_getElem? (i := 15) rfl) rfl
theorem mw1456 : (Jvm.Cond.code ({ cls := "MarginnoteModel", name := "isMarked", desc := "(III)Z" } : Jvm.MethodName) prog_8_method_70_code (4 : Nat) (Option.some Jvm.ClassFile.FieldType.boolean)) ∈ GW := GW_7 0 (List.mem_of_getElem? (i := 16) rfl) rfl
theorem mw1457 : (Jvm.Cond.methodLink "MarginnoteLaw" (255 : Nat) ({ cls := "MarginnoteModel", name := "covered", desc := "(II)I" } : Jvm.MethodName)) ∈ GW := GW_7 0 (List.mem_of_getElem? (i := 17) rfl) rfl
theorem mw1458 : (Jvm.Cond.instanceMethod ({ cls := "MarginnoteModel", name := "covered", desc := "(II)I" } : Jvm.MethodName)) ∈ GW := GW_7 0 (List.mem_of_getElem? (i := 18) rfl) rfl
theorem mw1459 : (Jvm.Cond.selects "MarginnoteModel" ({ cls := "MarginnoteModel", name := "covered", desc := "(II)I" } : Jvm.MethodName) ({ cls := "MarginnoteModel", name := "covered", desc := "(II)I" } : Jvm.MethodName)) ∈ GW := GW_7 0 (List.mem_of_getElem? (i := 19) rfl) rfl
theorem mw1460 : (Jvm.Cond.code ({ cls := "MarginnoteModel", name := "covered", desc := "(II)I" } : Jvm.MethodName) prog_8_method_71_code (5 : Nat) (Option.some Jvm.ClassFile.FieldType.int)) ∈ GW := GW_7 0 (List.mem_of_getElem? (i := 20) rfl) rfl
theorem mw1461 : (Jvm.Cond.methodLink "MarginnoteLaw" (258 : Nat) ({ cls := "MarginnoteModel", name := "blocks", desc := "(I)I" } : Jvm.MethodName)) ∈ GW := GW_7 0 (List.mem_of_getElem? (i := 21) rfl) rfl
theorem mw1462 : (Jvm.Cond.instanceMethod ({ cls := "MarginnoteModel", name := "blocks", desc := "(I)I" } : Jvm.MethodName)) ∈ GW := GW_7 0 (List.mem_of_getElem? (i := 22) rfl) rfl
theorem mw1463 : (Jvm.Cond.selects "MarginnoteModel" ({ cls := "MarginnoteModel", name := "blocks", desc := "(I)I" } : Jvm.MethodName) ({ cls := "MarginnoteModel", name := "blocks", desc := "(I)I" } : Jvm.MethodName)) ∈ GW := GW_7 0 (List.mem_of_getElem? (i := 23) rfl) rfl
theorem mw1464 : (Jvm.Cond.code ({ cls := "MarginnoteModel", name := "blocks", desc := "(I)I" } : Jvm.MethodName) prog_8_method_72_code (2 : Nat) (Option.some Jvm.ClassFile.FieldType.int)) ∈ GW := GW_7 0 (List.mem_of_getElem? (i := 24) rfl) rfl
theorem mw1465 : (Jvm.Cond.methodLink "MarginnoteLaw" (261 : Nat) ({ cls := "MarginnoteModel", name := "kind", desc := "(II)I" } : Jvm.MethodName)) ∈ GW := GW_7 0 (List.mem_of_getElem? (i := 25) rfl) rfl
theorem mw1466 : (Jvm.Cond.instanceMethod ({ cls := "MarginnoteModel", name := "kind", desc := "(II)I" } : Jvm.MethodName)) ∈ GW := GW_7 0 (List.mem_of_getElem? (i := 26) rfl) rfl
theorem mw1467 : (Jvm.Cond.selects "MarginnoteModel" ({ cls := "MarginnoteModel", name := "kind", desc := "(II)I" } : Jvm.MethodName) ({ cls := "MarginnoteModel", name := "kind", desc := "(II)I" } : Jvm.MethodName)) ∈ GW := GW_7 0 (List.mem_of_getElem? (i := 27) rfl) rfl
theorem mw1468 : (Jvm.Cond.code ({ cls := "MarginnoteModel", name := "kind", desc := "(II)I" } : Jvm.MethodName) prog_8_method_73_code (3 : Nat) (Option.some Jvm.ClassFile.FieldType.int)) ∈ GW := GW_7 0 (List.mem_of_getElem? (i := 28) rfl) rfl
theorem mw1469 : (Jvm.Cond.methodLink "MarginnoteLaw" (264 : Nat) ({ cls := "MarginnoteModel", name := "depth", desc := "(II)I" } : Jvm.MethodName)) ∈ GW := GW_7 0 (List.mem_of_getElem? (i := 29) rfl) rfl
theorem mw1470 : (Jvm.Cond.instanceMethod ({ cls := "MarginnoteModel", name := "depth", desc := "(II)I" } : Jvm.MethodName)) ∈ GW := GW_7 0 (List.mem_of_getElem? (i := 30) rfl) rfl
theorem mw1471 : (Jvm.Cond.selects "MarginnoteModel" ({ cls := "MarginnoteModel", name := "depth", desc := "(II)I" } : Jvm.MethodName) ({ cls := "MarginnoteModel", name := "depth", desc := "(II)I" } : Jvm.MethodName)) ∈ GW := GW_7 0 (List.mem_of_getElem? (i := 31) rfl) rfl
theorem mw1472 : (Jvm.Cond.code ({ cls := "MarginnoteModel", name := "depth", desc := "(II)I" } : Jvm.MethodName) prog_8_method_74_code (5 : Nat) (Option.some Jvm.ClassFile.FieldType.int)) ∈ GW := GW_7 0 (List.mem_of_getElem? (i := 32) rfl) rfl
theorem mw1473 : (Jvm.Cond.methodLink "MarginnoteLaw" (267 : Nat) ({ cls := "MarginnoteModel", name := "level", desc := "(II)I" } : Jvm.MethodName)) ∈ GW := GW_7 0 (List.mem_of_getElem? (i := 33) rfl) rfl
theorem mw1474 : (Jvm.Cond.instanceMethod ({ cls := "MarginnoteModel", name := "level", desc := "(II)I" } : Jvm.MethodName)) ∈ GW := GW_7 0 (List.mem_of_getElem? (i := 34) rfl) rfl
theorem mw1475 : (Jvm.Cond.selects "MarginnoteModel" ({ cls := "MarginnoteModel", name := "level", desc := "(II)I" } : Jvm.MethodName) ({ cls := "MarginnoteModel", name := "level", desc := "(II)I" } : Jvm.MethodName)) ∈ GW := GW_7 0 (List.mem_of_getElem? (i := 35) rfl) rfl
theorem mw1476 : (Jvm.Cond.code ({ cls := "MarginnoteModel", name := "level", desc := "(II)I" } : Jvm.MethodName) prog_8_method_75_code (3 : Nat) (Option.some Jvm.ClassFile.FieldType.int)) ∈ GW := GW_7 0 (List.mem_of_getElem? (i := 36) rfl) rfl
theorem mw1477 : (Jvm.Cond.methodLink "MarginnoteLaw" (270 : Nat) ({ cls := "MarginnoteModel", name := "cursor", desc := "(I)I" } : Jvm.MethodName)) ∈ GW := GW_7 0 (List.mem_of_getElem? (i := 37) rfl) rfl
theorem mw1478 : (Jvm.Cond.instanceMethod ({ cls := "MarginnoteModel", name := "cursor", desc := "(I)I" } : Jvm.MethodName)) ∈ GW := GW_7 0 (List.mem_of_getElem? (i := 38) rfl) rfl
theorem mw1479 : (Jvm.Cond.selects "MarginnoteModel" ({ cls := "MarginnoteModel", name := "cursor", desc := "(I)I" } : Jvm.MethodName) ({ cls := "MarginnoteModel", name := "cursor", desc := "(I)I" } : Jvm.MethodName)) ∈ GW := GW_7 0 (List.mem_of_getElem? (i := 39) rfl) rfl
theorem mw1480 : (Jvm.Cond.code ({ cls := "MarginnoteModel", name := "cursor", desc := "(I)I" } : Jvm.MethodName) prog_8_method_76_code (2 : Nat) (Option.some Jvm.ClassFile.FieldType.int)) ∈ GW := GW_7 0 (List.mem_of_getElem? (i := 40) rfl) rfl
theorem mw1481 : (Jvm.Cond.methodLink "MarginnoteLaw" (273 : Nat) ({ cls := "MarginnoteModel", name := "tail", desc := "(I)I" } : Jvm.MethodName)) ∈ GW := GW_7 0 (List.mem_of_getElem? (i := 41) rfl) rfl
theorem mw1482 : (Jvm.Cond.instanceMethod ({ cls := "MarginnoteModel", name := "tail", desc := "(I)I" } : Jvm.MethodName)) ∈ GW := GW_7 0 (List.mem_of_getElem? (i := 42) rfl) rfl
theorem mw1483 : (Jvm.Cond.selects "MarginnoteModel" ({ cls := "MarginnoteModel", name := "tail", desc := "(I)I" } : Jvm.MethodName) ({ cls := "MarginnoteModel", name := "tail", desc := "(I)I" } : Jvm.MethodName)) ∈ GW := GW_7 0 (List.mem_of_getElem? (i := 43) rfl) rfl
theorem mw1484 : (Jvm.Cond.code ({ cls := "MarginnoteModel", name := "tail", desc := "(I)I" } : Jvm.MethodName) prog_8_method_77_code (2 : Nat) (Option.some Jvm.ClassFile.FieldType.int)) ∈ GW := GW_7 0 (List.mem_of_getElem? (i := 44) rfl) rfl
theorem mw1485 : (Jvm.Cond.methodLink "MarginnoteLaw" (276 : Nat) ({ cls := "MarginnoteModel", name := "graves", desc := "(I)I" } : Jvm.MethodName)) ∈ GW := GW_7 0 (List.mem_of_getElem? (i := 45) rfl) rfl
theorem mw1486 : (Jvm.Cond.instanceMethod ({ cls := "MarginnoteModel", name := "graves", desc := "(I)I" } : Jvm.MethodName)) ∈ GW := GW_7 0 (List.mem_of_getElem? (i := 46) rfl) rfl
theorem mw1487 : (Jvm.Cond.selects "MarginnoteModel" ({ cls := "MarginnoteModel", name := "graves", desc := "(I)I" } : Jvm.MethodName) ({ cls := "MarginnoteModel", name := "graves", desc := "(I)I" } : Jvm.MethodName)) ∈ GW := GW_7 0 (List.mem_of_getElem? (i := 47) rfl) rfl
theorem mw1488 : (Jvm.Cond.code ({ cls := "MarginnoteModel", name := "graves", desc := "(I)I" } : Jvm.MethodName) prog_8_method_78_code (2 : Nat) (Option.some Jvm.ClassFile.FieldType.int)) ∈ GW := GW_7 0 (List.mem_of_getElem? (i := 48) rfl) rfl
theorem mw1489 : (Jvm.Cond.methodLink "MarginnoteLaw" (279 : Nat) ({ cls := "MarginnoteModel", name := "buried", desc := "(I)I" } : Jvm.MethodName)) ∈ GW := GW_7 0 (List.mem_of_getElem? (i := 49) rfl) rfl
theorem mw1490 : (Jvm.Cond.instanceMethod ({ cls := "MarginnoteModel", name := "buried", desc := "(I)I" } : Jvm.MethodName)) ∈ GW := GW_7 0 (List.mem_of_getElem? (i := 50) rfl) rfl
theorem mw1491 : (Jvm.Cond.selects "MarginnoteModel" ({ cls := "MarginnoteModel", name := "buried", desc := "(I)I" } : Jvm.MethodName) ({ cls := "MarginnoteModel", name := "buried", desc := "(I)I" } : Jvm.MethodName)) ∈ GW := GW_7 0 (List.mem_of_getElem? (i := 51) rfl) rfl
theorem mw1492 : (Jvm.Cond.code ({ cls := "MarginnoteModel", name := "buried", desc := "(I)I" } : Jvm.MethodName) prog_8_method_79_code (4 : Nat) (Option.some Jvm.ClassFile.FieldType.int)) ∈ GW := GW_7 0 (List.mem_of_getElem? (i := 52) rfl) rfl
theorem mw1493 : (Jvm.Cond.methodLink "MarginnoteLaw" (283 : Nat) ({ cls := "MarginnoteModel", name := "acts", desc := "()I" } : Jvm.MethodName)) ∈ GW := GW_7 0 (List.mem_of_getElem? (i := 53) rfl) rfl
theorem mw1494 : (Jvm.Cond.instanceMethod ({ cls := "MarginnoteModel", name := "acts", desc := "()I" } : Jvm.MethodName)) ∈ GW := GW_7 0 (List.mem_of_getElem? (i := 54) rfl) rfl
theorem mw1495 : (Jvm.Cond.selects "MarginnoteModel" ({ cls := "MarginnoteModel", name := "acts", desc := "()I" } : Jvm.MethodName) ({ cls := "MarginnoteModel", name := "acts", desc := "()I" } : Jvm.MethodName)) ∈ GW := GW_7 0 (List.mem_of_getElem? (i := 55) rfl) rfl
theorem mw1496 : (Jvm.Cond.code ({ cls := "MarginnoteModel", name := "acts", desc := "()I" } : Jvm.MethodName) prog_8_method_80_code (1 : Nat) (Option.some Jvm.ClassFile.FieldType.int)) ∈ GW := GW_7 0 (List.mem_of_getElem? (i := 56) rfl) rfl
theorem mw1497 : (Jvm.Cond.methodLink "MarginnoteLaw" (286 : Nat) ({ cls := "MarginnoteModel", name := "has", desc := "(I)I" } : Jvm.MethodName)) ∈ GW := GW_7 0 (List.mem_of_getElem? (i := 57) rfl) rfl
theorem mw1498 : (Jvm.Cond.instanceMethod ({ cls := "MarginnoteModel", name := "has", desc := "(I)I" } : Jvm.MethodName)) ∈ GW := GW_7 0 (List.mem_of_getElem? (i := 58) rfl) rfl
theorem mw1499 : (Jvm.Cond.selects "MarginnoteModel" ({ cls := "MarginnoteModel", name := "has", desc := "(I)I" } : Jvm.MethodName) ({ cls := "MarginnoteModel", name := "has", desc := "(I)I" } : Jvm.MethodName)) ∈ GW := GW_7 0 (List.mem_of_getElem? (i := 59) rfl) rfl
theorem mw1500 : (Jvm.Cond.code ({ cls := "MarginnoteModel", name := "has", desc := "(I)I" } : Jvm.MethodName) prog_8_method_81_code (2 : Nat) (Option.some Jvm.ClassFile.FieldType.int)) ∈ GW := GW_7 0 (List.mem_of_getElem? (i := 60) rfl) rfl
theorem mw1501 : (Jvm.Cond.methodLink "MarginnoteLaw" (289 : Nat) ({ cls := "MarginnoteModel", name := "actAt", desc := "(II)I" } : Jvm.MethodName)) ∈ GW := GW_7 0 (List.mem_of_getElem? (i := 61) rfl) rfl
theorem mw1502 : (Jvm.Cond.instanceMethod ({ cls := "MarginnoteModel", name := "actAt", desc := "(II)I" } : Jvm.MethodName)) ∈ GW := GW_7 0 (List.mem_of_getElem? (i := 62) rfl) rfl
theorem mw1503 : (Jvm.Cond.selects "MarginnoteModel" ({ cls := "MarginnoteModel", name := "actAt", desc := "(II)I" } : Jvm.MethodName) ({ cls := "MarginnoteModel", name := "actAt", desc := "(II)I" } : Jvm.MethodName)) ∈ GW := GW_7 0 (List.mem_of_getElem? (i := 63) rfl) rfl
theorem mw1504 : (Jvm.Cond.code ({ cls := "MarginnoteModel", name := "actAt", desc := "(II)I" } : Jvm.MethodName) prog_8_method_82_code (3 : Nat) (Option.some Jvm.ClassFile.FieldType.int)) ∈ GW := GW_7 0 (List.mem_of_getElem? (i := 64) rfl) rfl
theorem mw1505 : (Jvm.Cond.methodLink "MarginnoteLaw" (292 : Nat) ({ cls := "MarginnoteModel", name := "act", desc := "(I)I" } : Jvm.MethodName)) ∈ GW := GW_7 0 (List.mem_of_getElem? (i := 65) rfl) rfl
theorem mw1506 : (Jvm.Cond.instanceMethod ({ cls := "MarginnoteModel", name := "act", desc := "(I)I" } : Jvm.MethodName)) ∈ GW := GW_7 0 (List.mem_of_getElem? (i := 66) rfl) rfl
theorem mw1507 : (Jvm.Cond.selects "MarginnoteModel" ({ cls := "MarginnoteModel", name := "act", desc := "(I)I" } : Jvm.MethodName) ({ cls := "MarginnoteModel", name := "act", desc := "(I)I" } : Jvm.MethodName)) ∈ GW := GW_7 0 (List.mem_of_getElem? (i := 67) rfl) rfl
theorem mw1508 : (Jvm.Cond.code ({ cls := "MarginnoteModel", name := "act", desc := "(I)I" } : Jvm.MethodName) prog_8_method_83_code (2 : Nat) (Option.some Jvm.ClassFile.FieldType.int)) ∈ GW := GW_7 0 (List.mem_of_getElem? (i := 68) rfl) rfl
theorem mw1509 : (Jvm.Cond.methodLink "MarginnoteLaw" (295 : Nat) ({ cls := "MarginnoteModel", name := "isUndone", desc := "(II)Z" } : Jvm.MethodName)) ∈ GW := GW_7 0 (List.mem_of_getElem? (i := 69) rfl) rfl
theorem mw1510 : (Jvm.Cond.instanceMethod ({ cls := "MarginnoteModel", name := "isUndone", desc := "(II)Z" } : Jvm.MethodName)) ∈ GW := GW_7 0 (List.mem_of_getElem? (i := 70) rfl) rfl
theorem mw1511 : (Jvm.Cond.selects "MarginnoteModel" ({ cls := "MarginnoteModel", name := "isUndone", desc := "(II)Z" } : Jvm.MethodName) ({ cls := "MarginnoteModel", name := "isUndone", desc := "(II)Z" } : Jvm.MethodName)) ∈ GW := GW_7 0 (List.mem_of_getElem? (i := 71) rfl) rfl
theorem mw1512 : (Jvm.Cond.code ({ cls := "MarginnoteModel", name := "isUndone", desc := "(II)Z" } : Jvm.MethodName) prog_8_method_84_code (3 : Nat) (Option.some Jvm.ClassFile.FieldType.boolean)) ∈ GW := GW_7 0 (List.mem_of_getElem? (i := 72) rfl) rfl
theorem mw1513 : (Jvm.Cond.arrayClass Jvm.ClassFile.FieldType.long) ∈ GW := GW_7 0 (List.mem_of_getElem? (i := 73) rfl) rfl
theorem ms0 : Cond.selects "Marginnote" ⟨"Marginnote", "siteAt", "(I)LMarginnote$Site;"⟩ ⟨"Marginnote", "siteAt", "(I)LMarginnote$Site;"⟩ ∈ GW := GW_s (q := (⟨"Marginnote", "siteAt", "(I)LMarginnote$Site;"⟩, 11)) (show _ ∈ lw_privs from (List.mem_append_left _ (List.mem_of_getElem? (i := 0) rfl))) rfl
theorem ms1 : Cond.selects "java/lang/Throwable" ⟨"java/lang/Throwable", "fillInStackTrace", "(I)Ljava/lang/Throwable;"⟩ ⟨"java/lang/Throwable", "fillInStackTrace", "(I)Ljava/lang/Throwable;"⟩ ∈ GW := GW_s (q := (⟨"java/lang/Throwable", "fillInStackTrace", "(I)Ljava/lang/Throwable;"⟩, 6)) (show _ ∈ lw_privs from (List.mem_append_left _ (List.mem_of_getElem? (i := 1) rfl))) rfl
theorem ms2 : Cond.selects "Marginnote$Paper" ⟨"Marginnote$Paper", "clear", "()V"⟩ ⟨"Marginnote$Paper", "clear", "()V"⟩ ∈ GW := GW_s (q := (⟨"Marginnote$Paper", "clear", "()V"⟩, 12)) (show _ ∈ lw_privs from (List.mem_append_left _ (List.mem_of_getElem? (i := 2) rfl))) rfl
theorem ms3 : Cond.selects "Marginnote$Paper" ⟨"Marginnote$Paper", "findUndone", "(LMarginnote$ActSet;)V"⟩ ⟨"Marginnote$Paper", "findUndone", "(LMarginnote$ActSet;)V"⟩ ∈ GW := GW_s (q := (⟨"Marginnote$Paper", "findUndone", "(LMarginnote$ActSet;)V"⟩, 12)) (show _ ∈ lw_privs from (List.mem_append_left _ (List.mem_of_getElem? (i := 3) rfl))) rfl
theorem ms4 : Cond.selects "Marginnote$Paper" ⟨"Marginnote$Paper", "putElement", "(I)V"⟩ ⟨"Marginnote$Paper", "putElement", "(I)V"⟩ ∈ GW := GW_s (q := (⟨"Marginnote$Paper", "putElement", "(I)V"⟩, 12)) (show _ ∈ lw_privs from (List.mem_append_left _ (List.mem_of_getElem? (i := 4) rfl))) rfl
theorem ms5 : Cond.selects "Marginnote$Paper" ⟨"Marginnote$Paper", "placeOf", "(I)I"⟩ ⟨"Marginnote$Paper", "placeOf", "(I)I"⟩ ∈ GW := GW_s (q := (⟨"Marginnote$Paper", "placeOf", "(I)I"⟩, 12)) (show _ ∈ lw_privs from (List.mem_append_left _ (List.mem_of_getElem? (i := 5) rfl))) rfl
theorem ms6 : Cond.selects "Marginnote$Paper" ⟨"Marginnote$Paper", "inRow", "(I)I"⟩ ⟨"Marginnote$Paper", "inRow", "(I)I"⟩ ∈ GW := GW_s (q := (⟨"Marginnote$Paper", "inRow", "(I)I"⟩, 12)) (show _ ∈ lw_privs from (List.mem_append_left _ (List.mem_of_getElem? (i := 6) rfl))) rfl
theorem ms7 : Cond.selects "Marginnote$Paper" ⟨"Marginnote$Paper", "blockOf", "(I)I"⟩ ⟨"Marginnote$Paper", "blockOf", "(I)I"⟩ ∈ GW := GW_s (q := (⟨"Marginnote$Paper", "blockOf", "(I)I"⟩, 12)) (show _ ∈ lw_privs from (List.mem_append_left _ (List.mem_of_getElem? (i := 7) rfl))) rfl
theorem ms8 : Cond.selects "Marginnote$Paper" ⟨"Marginnote$Paper", "isShownBreak", "(I)Z"⟩ ⟨"Marginnote$Paper", "isShownBreak", "(I)Z"⟩ ∈ GW := GW_s (q := (⟨"Marginnote$Paper", "isShownBreak", "(I)Z"⟩, 12)) (show _ ∈ lw_privs from (List.mem_append_left _ (List.mem_of_getElem? (i := 8) rfl))) rfl
theorem ms9 : Cond.selects "Marginnote$Paper" ⟨"Marginnote$Paper", "bitsOf", "(I)I"⟩ ⟨"Marginnote$Paper", "bitsOf", "(I)I"⟩ ∈ GW := GW_s (q := (⟨"Marginnote$Paper", "bitsOf", "(I)I"⟩, 12)) (show _ ∈ lw_privs from (List.mem_append_left _ (List.mem_of_getElem? (i := 9) rfl))) rfl
theorem ms10 : Cond.selects "Marginnote$Paper" ⟨"Marginnote$Paper", "removeElement", "(I)V"⟩ ⟨"Marginnote$Paper", "removeElement", "(I)V"⟩ ∈ GW := GW_s (q := (⟨"Marginnote$Paper", "removeElement", "(I)V"⟩, 12)) (show _ ∈ lw_privs from (List.mem_append_left _ (List.mem_of_getElem? (i := 10) rfl))) rfl
theorem ms11 : Cond.selects "Marginnote$Paper" ⟨"Marginnote$Paper", "restoreElement", "(I)V"⟩ ⟨"Marginnote$Paper", "restoreElement", "(I)V"⟩ ∈ GW := GW_s (q := (⟨"Marginnote$Paper", "restoreElement", "(I)V"⟩, 12)) (show _ ∈ lw_privs from (List.mem_append_left _ (List.mem_of_getElem? (i := 11) rfl))) rfl
theorem ms12 : Cond.selects "Marginnote$Paper" ⟨"Marginnote$Paper", "paint", "(IIZ)V"⟩ ⟨"Marginnote$Paper", "paint", "(IIZ)V"⟩ ∈ GW := GW_s (q := (⟨"Marginnote$Paper", "paint", "(IIZ)V"⟩, 12)) (show _ ∈ lw_privs from (List.mem_append_left _ (List.mem_of_getElem? (i := 12) rfl))) rfl
theorem ms13 : Cond.selects "Marginnote$Paper" ⟨"Marginnote$Paper", "giveKind", "(I)V"⟩ ⟨"Marginnote$Paper", "giveKind", "(I)V"⟩ ∈ GW := GW_s (q := (⟨"Marginnote$Paper", "giveKind", "(I)V"⟩, 12)) (show _ ∈ lw_privs from (List.mem_append_left _ (List.mem_of_getElem? (i := 13) rfl))) rfl
theorem ms14 : Cond.selects "Marginnote$Paper" ⟨"Marginnote$Paper", "putUnder", "(I)V"⟩ ⟨"Marginnote$Paper", "putUnder", "(I)V"⟩ ∈ GW := GW_s (q := (⟨"Marginnote$Paper", "putUnder", "(I)V"⟩, 12)) (show _ ∈ lw_privs from (List.mem_append_left _ (List.mem_of_getElem? (i := 14) rfl))) rfl
theorem ms15 : Cond.selects "Marginnote$Paper" ⟨"Marginnote$Paper", "comesTo", "(II)Z"⟩ ⟨"Marginnote$Paper", "comesTo", "(II)Z"⟩ ∈ GW := GW_s (q := (⟨"Marginnote$Paper", "comesTo", "(II)Z"⟩, 12)) (show _ ∈ lw_privs from (List.mem_append_left _ (List.mem_of_getElem? (i := 15) rfl))) rfl
theorem ms16 : Cond.selects "Marginnote$Paper" ⟨"Marginnote$Paper", "settle", "(I)V"⟩ ⟨"Marginnote$Paper", "settle", "(I)V"⟩ ∈ GW := GW_s (q := (⟨"Marginnote$Paper", "settle", "(I)V"⟩, 12)) (show _ ∈ lw_privs from (List.mem_append_right _ (List.mem_append_left _ (List.mem_of_getElem? (i := 0) rfl)))) rfl
theorem ms17 : Cond.selects "Marginnote$Paper" ⟨"Marginnote$Paper", "elementOf", "(I)I"⟩ ⟨"Marginnote$Paper", "elementOf", "(I)I"⟩ ∈ GW := GW_s (q := (⟨"Marginnote$Paper", "elementOf", "(I)I"⟩, 12)) (show _ ∈ lw_privs from (List.mem_append_right _ (List.mem_append_left _ (List.mem_of_getElem? (i := 1) rfl)))) rfl
theorem ms18 : Cond.selects "Marginnote$Paper" ⟨"Marginnote$Paper", "isOpen", "(I)Z"⟩ ⟨"Marginnote$Paper", "isOpen", "(I)Z"⟩ ∈ GW := GW_s (q := (⟨"Marginnote$Paper", "isOpen", "(I)Z"⟩, 12)) (show _ ∈ lw_privs from (List.mem_append_right _ (List.mem_append_left _ (List.mem_of_getElem? (i := 2) rfl)))) rfl
theorem ms19 : Cond.selects "Marginnote$Paper" ⟨"Marginnote$Paper", "giveLevel", "(I)V"⟩ ⟨"Marginnote$Paper", "giveLevel", "(I)V"⟩ ∈ GW := GW_s (q := (⟨"Marginnote$Paper", "giveLevel", "(I)V"⟩, 12)) (show _ ∈ lw_privs from (List.mem_append_right _ (List.mem_append_left _ (List.mem_of_getElem? (i := 3) rfl)))) rfl
theorem ms20 : Cond.selects "Marginnote" ⟨"Marginnote", "writeBehindCursor", "(LMarginnote$Site;LMarginnote$Paper;IC)I"⟩ ⟨"Marginnote", "writeBehindCursor", "(LMarginnote$Site;LMarginnote$Paper;IC)I"⟩ ∈ GW := GW_s (q := (⟨"Marginnote", "writeBehindCursor", "(LMarginnote$Site;LMarginnote$Paper;IC)I"⟩, 11)) (show _ ∈ lw_privs from (List.mem_append_right _ (List.mem_append_left _ (List.mem_of_getElem? (i := 4) rfl)))) rfl
theorem ms21 : Cond.selects "Marginnote" ⟨"Marginnote", "checkRoomFor", "(I)V"⟩ ⟨"Marginnote", "checkRoomFor", "(I)V"⟩ ∈ GW := GW_s (q := (⟨"Marginnote", "checkRoomFor", "(I)V"⟩, 11)) (show _ ∈ lw_privs from (List.mem_append_right _ (List.mem_append_left _ (List.mem_of_getElem? (i := 5) rfl)))) rfl
theorem ms22 : Cond.selects "Marginnote" ⟨"Marginnote", "make", "(LMarginnote$Site;IIIIZ)I"⟩ ⟨"Marginnote", "make", "(LMarginnote$Site;IIIIZ)I"⟩ ∈ GW := GW_s (q := (⟨"Marginnote", "make", "(LMarginnote$Site;IIIIZ)I"⟩, 11)) (show _ ∈ lw_privs from (List.mem_append_right _ (List.mem_append_left _ (List.mem_of_getElem? (i := 6) rfl)))) rfl
theorem ms23 : Cond.selects "Marginnote$Book" ⟨"Marginnote$Book", "putInOrder", "(I)V"⟩ ⟨"Marginnote$Book", "putInOrder", "(I)V"⟩ ∈ GW := GW_s (q := (⟨"Marginnote$Book", "putInOrder", "(I)V"⟩, 10)) (show _ ∈ lw_privs from (List.mem_append_right _ (List.mem_append_left _ (List.mem_of_getElem? (i := 7) rfl)))) rfl
theorem ms24 : Cond.selects "Marginnote$Book" ⟨"Marginnote$Book", "comesBefore", "(II)Z"⟩ ⟨"Marginnote$Book", "comesBefore", "(II)Z"⟩ ∈ GW := GW_s (q := (⟨"Marginnote$Book", "comesBefore", "(II)Z"⟩, 10)) (show _ ∈ lw_privs from (List.mem_append_right _ (List.mem_append_left _ (List.mem_of_getElem? (i := 8) rfl)))) rfl
theorem ms25 : Cond.selects "Marginnote" ⟨"Marginnote", "writeOnSelection", "(LMarginnote$Site;LMarginnote$Paper;IIZ)I"⟩ ⟨"Marginnote", "writeOnSelection", "(LMarginnote$Site;LMarginnote$Paper;IIZ)I"⟩ ∈ GW := GW_s (q := (⟨"Marginnote", "writeOnSelection", "(LMarginnote$Site;LMarginnote$Paper;IIZ)I"⟩, 11)) (show _ ∈ lw_privs from (List.mem_append_right _ (List.mem_append_left _ (List.mem_of_getElem? (i := 9) rfl)))) rfl
theorem ms26 : Cond.selects "Marginnote" ⟨"Marginnote", "checkMayWriteIn", "(LMarginnote$Paper;LMarginnote$Site;I)V"⟩ ⟨"Marginnote", "checkMayWriteIn", "(LMarginnote$Paper;LMarginnote$Site;I)V"⟩ ∈ GW := GW_s (q := (⟨"Marginnote", "checkMayWriteIn", "(LMarginnote$Paper;LMarginnote$Site;I)V"⟩, 11)) (show _ ∈ lw_privs from (List.mem_append_right _ (List.mem_append_left _ (List.mem_of_getElem? (i := 10) rfl)))) rfl
theorem ms27 : Cond.selects "Marginnote" ⟨"Marginnote", "lastNotUndone", "(LMarginnote$Site;LMarginnote$Paper;)I"⟩ ⟨"Marginnote", "lastNotUndone", "(LMarginnote$Site;LMarginnote$Paper;)I"⟩ ∈ GW := GW_s (q := (⟨"Marginnote", "lastNotUndone", "(LMarginnote$Site;LMarginnote$Paper;)I"⟩, 11)) (show _ ∈ lw_privs from (List.mem_append_right _ (List.mem_append_left _ (List.mem_of_getElem? (i := 11) rfl)))) rfl
theorem ms28 : Cond.selects "Marginnote" ⟨"Marginnote", "madeAndHas", "(LMarginnote$Site;I)Z"⟩ ⟨"Marginnote", "madeAndHas", "(LMarginnote$Site;I)Z"⟩ ∈ GW := GW_s (q := (⟨"Marginnote", "madeAndHas", "(LMarginnote$Site;I)Z"⟩, 11)) (show _ ∈ lw_privs from (List.mem_append_right _ (List.mem_append_left _ (List.mem_of_getElem? (i := 12) rfl)))) rfl
theorem ms29 : Cond.selects "Marginnote" ⟨"Marginnote", "lastToRedo", "(LMarginnote$Site;LMarginnote$Paper;)I"⟩ ⟨"Marginnote", "lastToRedo", "(LMarginnote$Site;LMarginnote$Paper;)I"⟩ ∈ GW := GW_s (q := (⟨"Marginnote", "lastToRedo", "(LMarginnote$Site;LMarginnote$Paper;)I"⟩, 11)) (show _ ∈ lw_privs from (List.mem_append_right _ (List.mem_append_left _ (List.mem_of_getElem? (i := 13) rfl)))) rfl
theorem ms30 : Cond.selects "Marginnote" ⟨"Marginnote", "messageAt", "(I)LMarginnote$Message;"⟩ ⟨"Marginnote", "messageAt", "(I)LMarginnote$Message;"⟩ ∈ GW := GW_s (q := (⟨"Marginnote", "messageAt", "(I)LMarginnote$Message;"⟩, 11)) (show _ ∈ lw_privs from (List.mem_append_right _ (List.mem_append_left _ (List.mem_of_getElem? (i := 14) rfl)))) rfl
theorem ms31 : Cond.selects "Marginnote" ⟨"Marginnote", "versionAt", "(I)LMarginnote$ActSet;"⟩ ⟨"Marginnote", "versionAt", "(I)LMarginnote$ActSet;"⟩ ∈ GW := GW_s (q := (⟨"Marginnote", "versionAt", "(I)LMarginnote$ActSet;"⟩, 11)) (show _ ∈ lw_privs from (List.mem_append_right _ (List.mem_append_left _ (List.mem_of_getElem? (i := 15) rfl)))) rfl
theorem ms32 : Cond.selects "Marginnote" ⟨"Marginnote", "collectHadByAll", "(LMarginnote$Site;)V"⟩ ⟨"Marginnote", "collectHadByAll", "(LMarginnote$Site;)V"⟩ ∈ GW := GW_s (q := (⟨"Marginnote", "collectHadByAll", "(LMarginnote$Site;)V"⟩, 11)) (show _ ∈ lw_privs from (List.mem_append_right _ (List.mem_append_right _ (List.mem_append_left _ (List.mem_of_getElem? (i := 0) rfl))))) rfl
theorem ms33 : Cond.selects "MarginnoteModel" ⟨"MarginnoteModel", "writes", "(III)I"⟩ ⟨"MarginnoteModel", "writes", "(III)I"⟩ ∈ GW := GW_s (q := (⟨"MarginnoteModel", "writes", "(III)I"⟩, 45)) (show _ ∈ lw_privs from (List.mem_append_right _ (List.mem_append_right _ (List.mem_append_left _ (List.mem_of_getElem? (i := 1) rfl))))) rfl
theorem ms34 : Cond.selects "MarginnoteModel" ⟨"MarginnoteModel", "findsSite", "(I)V"⟩ ⟨"MarginnoteModel", "findsSite", "(I)V"⟩ ∈ GW := GW_s (q := (⟨"MarginnoteModel", "findsSite", "(I)V"⟩, 45)) (show _ ∈ lw_privs from (List.mem_append_right _ (List.mem_append_right _ (List.mem_append_left _ (List.mem_of_getElem? (i := 2) rfl))))) rfl
theorem ms35 : Cond.selects "MarginnoteModel" ⟨"MarginnoteModel", "finds", "([ZI)V"⟩ ⟨"MarginnoteModel", "finds", "([ZI)V"⟩ ∈ GW := GW_s (q := (⟨"MarginnoteModel", "finds", "([ZI)V"⟩, 45)) (show _ ∈ lw_privs from (List.mem_append_right _ (List.mem_append_right _ (List.mem_append_left _ (List.mem_of_getElem? (i := 3) rfl))))) rfl
theorem ms36 : Cond.selects "MarginnoteModel" ⟨"MarginnoteModel", "orders", "([ZI)V"⟩ ⟨"MarginnoteModel", "orders", "([ZI)V"⟩ ∈ GW := GW_s (q := (⟨"MarginnoteModel", "orders", "([ZI)V"⟩, 45)) (show _ ∈ lw_privs from (List.mem_append_right _ (List.mem_append_right _ (List.mem_append_left _ (List.mem_of_getElem? (i := 4) rfl))))) rfl
theorem ms37 : Cond.selects "MarginnoteModel" ⟨"MarginnoteModel", "isBehind", "(II)Z"⟩ ⟨"MarginnoteModel", "isBehind", "(II)Z"⟩ ∈ GW := GW_s (q := (⟨"MarginnoteModel", "isBehind", "(II)Z"⟩, 45)) (show _ ∈ lw_privs from (List.mem_append_right _ (List.mem_append_right _ (List.mem_append_left _ (List.mem_of_getElem? (i := 5) rfl))))) rfl
theorem ms38 : Cond.selects "MarginnoteModel" ⟨"MarginnoteModel", "does", "(I)V"⟩ ⟨"MarginnoteModel", "does", "(I)V"⟩ ∈ GW := GW_s (q := (⟨"MarginnoteModel", "does", "(I)V"⟩, 45)) (show _ ∈ lw_privs from (List.mem_append_right _ (List.mem_append_right _ (List.mem_append_left _ (List.mem_of_getElem? (i := 6) rfl))))) rfl
theorem ms39 : Cond.selects "MarginnoteModel" ⟨"MarginnoteModel", "puts", "(I)V"⟩ ⟨"MarginnoteModel", "puts", "(I)V"⟩ ∈ GW := GW_s (q := (⟨"MarginnoteModel", "puts", "(I)V"⟩, 45)) (show _ ∈ lw_privs from (List.mem_append_right _ (List.mem_append_right _ (List.mem_append_left _ (List.mem_of_getElem? (i := 7) rfl))))) rfl
theorem ms40 : Cond.selects "MarginnoteModel" ⟨"MarginnoteModel", "blockOf", "(I)I"⟩ ⟨"MarginnoteModel", "blockOf", "(I)I"⟩ ∈ GW := GW_s (q := (⟨"MarginnoteModel", "blockOf", "(I)I"⟩, 45)) (show _ ∈ lw_privs from (List.mem_append_right _ (List.mem_append_right _ (List.mem_append_left _ (List.mem_of_getElem? (i := 8) rfl))))) rfl
theorem ms41 : Cond.selects "MarginnoteModel" ⟨"MarginnoteModel", "spot", "(I)I"⟩ ⟨"MarginnoteModel", "spot", "(I)I"⟩ ∈ GW := GW_s (q := (⟨"MarginnoteModel", "spot", "(I)I"⟩, 45)) (show _ ∈ lw_privs from (List.mem_append_right _ (List.mem_append_right _ (List.mem_append_left _ (List.mem_of_getElem? (i := 9) rfl))))) rfl
theorem ms42 : Cond.selects "MarginnoteModel" ⟨"MarginnoteModel", "blockAt", "(I)I"⟩ ⟨"MarginnoteModel", "blockAt", "(I)I"⟩ ∈ GW := GW_s (q := (⟨"MarginnoteModel", "blockAt", "(I)I"⟩, 45)) (show _ ∈ lw_privs from (List.mem_append_right _ (List.mem_append_right _ (List.mem_append_left _ (List.mem_of_getElem? (i := 10) rfl))))) rfl
theorem ms43 : Cond.selects "MarginnoteModel" ⟨"MarginnoteModel", "isShown", "(I)Z"⟩ ⟨"MarginnoteModel", "isShown", "(I)Z"⟩ ∈ GW := GW_s (q := (⟨"MarginnoteModel", "isShown", "(I)Z"⟩, 45)) (show _ ∈ lw_privs from (List.mem_append_right _ (List.mem_append_right _ (List.mem_append_left _ (List.mem_of_getElem? (i := 11) rfl))))) rfl
theorem ms44 : Cond.selects "MarginnoteModel" ⟨"MarginnoteModel", "levelIn", "(II)I"⟩ ⟨"MarginnoteModel", "levelIn", "(II)I"⟩ ∈ GW := GW_s (q := (⟨"MarginnoteModel", "levelIn", "(II)I"⟩, 45)) (show _ ∈ lw_privs from (List.mem_append_right _ (List.mem_append_right _ (List.mem_append_left _ (List.mem_of_getElem? (i := 12) rfl))))) rfl
theorem ms45 : Cond.selects "MarginnoteModel" ⟨"MarginnoteModel", "removes", "(I)V"⟩ ⟨"MarginnoteModel", "removes", "(I)V"⟩ ∈ GW := GW_s (q := (⟨"MarginnoteModel", "removes", "(I)V"⟩, 45)) (show _ ∈ lw_privs from (List.mem_append_right _ (List.mem_append_right _ (List.mem_append_left _ (List.mem_of_getElem? (i := 13) rfl))))) rfl
theorem ms46 : Cond.selects "MarginnoteModel" ⟨"MarginnoteModel", "spans", "(I)V"⟩ ⟨"MarginnoteModel", "spans", "(I)V"⟩ ∈ GW := GW_s (q := (⟨"MarginnoteModel", "spans", "(I)V"⟩, 45)) (show _ ∈ lw_privs from (List.mem_append_right _ (List.mem_append_right _ (List.mem_append_left _ (List.mem_of_getElem? (i := 14) rfl))))) rfl
theorem ms47 : Cond.selects "MarginnoteModel" ⟨"MarginnoteModel", "comesTo", "(II)Z"⟩ ⟨"MarginnoteModel", "comesTo", "(II)Z"⟩ ∈ GW := GW_s (q := (⟨"MarginnoteModel", "comesTo", "(II)Z"⟩, 45)) (show _ ∈ lw_privs from (List.mem_append_right _ (List.mem_append_right _ (List.mem_append_left _ (List.mem_of_getElem? (i := 15) rfl))))) rfl
theorem ms48 : Cond.selects "MarginnoteModel" ⟨"MarginnoteModel", "decides", "(IIZ)V"⟩ ⟨"MarginnoteModel", "decides", "(IIZ)V"⟩ ∈ GW := GW_s (q := (⟨"MarginnoteModel", "decides", "(IIZ)V"⟩, 45)) (show _ ∈ lw_privs from (List.mem_append_right _ (List.mem_append_right _ (List.mem_append_right _ (List.mem_append_left _ (List.mem_of_getElem? (i := 0) rfl)))))) rfl
theorem ms49 : Cond.selects "MarginnoteModel" ⟨"MarginnoteModel", "isDone", "(I)Z"⟩ ⟨"MarginnoteModel", "isDone", "(I)Z"⟩ ∈ GW := GW_s (q := (⟨"MarginnoteModel", "isDone", "(I)Z"⟩, 45)) (show _ ∈ lw_privs from (List.mem_append_right _ (List.mem_append_right _ (List.mem_append_right _ (List.mem_append_left _ (List.mem_of_getElem? (i := 1) rfl)))))) rfl
theorem ms50 : Cond.selects "MarginnoteModel" ⟨"MarginnoteModel", "isOpen", "(I)Z"⟩ ⟨"MarginnoteModel", "isOpen", "(I)Z"⟩ ∈ GW := GW_s (q := (⟨"MarginnoteModel", "isOpen", "(I)Z"⟩, 45)) (show _ ∈ lw_privs from (List.mem_append_right _ (List.mem_append_right _ (List.mem_append_right _ (List.mem_append_left _ (List.mem_of_getElem? (i := 2) rfl)))))) rfl
theorem ms51 : Cond.selects "MarginnoteModel" ⟨"MarginnoteModel", "isSeen", "(I)Z"⟩ ⟨"MarginnoteModel", "isSeen", "(I)Z"⟩ ∈ GW := GW_s (q := (⟨"MarginnoteModel", "isSeen", "(I)Z"⟩, 45)) (show _ ∈ lw_privs from (List.mem_append_right _ (List.mem_append_right _ (List.mem_append_right _ (List.mem_append_left _ (List.mem_of_getElem? (i := 3) rfl)))))) rfl
theorem ms52 : Cond.selects "MarginnoteModel" ⟨"MarginnoteModel", "elementOf", "(I)I"⟩ ⟨"MarginnoteModel", "elementOf", "(I)I"⟩ ∈ GW := GW_s (q := (⟨"MarginnoteModel", "elementOf", "(I)I"⟩, 45)) (show _ ∈ lw_privs from (List.mem_append_right _ (List.mem_append_right _ (List.mem_append_right _ (List.mem_append_left _ (List.mem_of_getElem? (i := 4) rfl)))))) rfl
theorem ms53 : Cond.selects "MarginnoteModel" ⟨"MarginnoteModel", "makes", "(IIIIIIZ)I"⟩ ⟨"MarginnoteModel", "makes", "(IIIIIIZ)I"⟩ ∈ GW := GW_s (q := (⟨"MarginnoteModel", "makes", "(IIIIIIZ)I"⟩, 45)) (show _ ∈ lw_privs from (List.mem_append_right _ (List.mem_append_right _ (List.mem_append_right _ (List.mem_append_left _ (List.mem_of_getElem? (i := 5) rfl)))))) rfl
theorem ms54 : Cond.selects "MarginnoteModel" ⟨"MarginnoteModel", "gets", "(II)V"⟩ ⟨"MarginnoteModel", "gets", "(II)V"⟩ ∈ GW := GW_s (q := (⟨"MarginnoteModel", "gets", "(II)V"⟩, 45)) (show _ ∈ lw_privs from (List.mem_append_right _ (List.mem_append_right _ (List.mem_append_right _ (List.mem_append_left _ (List.mem_of_getElem? (i := 6) rfl)))))) rfl
theorem ms55 : Cond.selects "MarginnoteModel" ⟨"MarginnoteModel", "fails", "(I)I"⟩ ⟨"MarginnoteModel", "fails", "(I)I"⟩ ∈ GW := GW_s (q := (⟨"MarginnoteModel", "fails", "(I)I"⟩, 45)) (show _ ∈ lw_privs from (List.mem_append_right _ (List.mem_append_right _ (List.mem_append_right _ (List.mem_append_left _ (List.mem_of_getElem? (i := 7) rfl)))))) rfl
theorem ms56 : Cond.selects "MarginnoteModel" ⟨"MarginnoteModel", "selected", "(I)I"⟩ ⟨"MarginnoteModel", "selected", "(I)I"⟩ ∈ GW := GW_s (q := (⟨"MarginnoteModel", "selected", "(I)I"⟩, 45)) (show _ ∈ lw_privs from (List.mem_append_right _ (List.mem_append_right _ (List.mem_append_right _ (List.mem_append_left _ (List.mem_of_getElem? (i := 8) rfl)))))) rfl
theorem ms57 : Cond.selects "MarginnoteModel" ⟨"MarginnoteModel", "placeOf", "(I)I"⟩ ⟨"MarginnoteModel", "placeOf", "(I)I"⟩ ∈ GW := GW_s (q := (⟨"MarginnoteModel", "placeOf", "(I)I"⟩, 45)) (show _ ∈ lw_privs from (List.mem_append_right _ (List.mem_append_right _ (List.mem_append_right _ (List.mem_append_left _ (List.mem_of_getElem? (i := 9) rfl)))))) rfl
theorem ms58 : Cond.selects "MarginnoteModel" ⟨"MarginnoteModel", "lower", "(I)I"⟩ ⟨"MarginnoteModel", "lower", "(I)I"⟩ ∈ GW := GW_s (q := (⟨"MarginnoteModel", "lower", "(I)I"⟩, 45)) (show _ ∈ lw_privs from (List.mem_append_right _ (List.mem_append_right _ (List.mem_append_right _ (List.mem_append_left _ (List.mem_of_getElem? (i := 10) rfl)))))) rfl
theorem ms59 : Cond.selects "MarginnoteModel" ⟨"MarginnoteModel", "seenAt", "(I)I"⟩ ⟨"MarginnoteModel", "seenAt", "(I)I"⟩ ∈ GW := GW_s (q := (⟨"MarginnoteModel", "seenAt", "(I)I"⟩, 45)) (show _ ∈ lw_privs from (List.mem_append_right _ (List.mem_append_right _ (List.mem_append_right _ (List.mem_append_left _ (List.mem_of_getElem? (i := 11) rfl)))))) rfl
theorem ms60 : Cond.selects "MarginnoteModel" ⟨"MarginnoteModel", "seen", "()I"⟩ ⟨"MarginnoteModel", "seen", "()I"⟩ ∈ GW := GW_s (q := (⟨"MarginnoteModel", "seen", "()I"⟩, 45)) (show _ ∈ lw_privs from (List.mem_append_right _ (List.mem_append_right _ (List.mem_append_right _ (List.mem_append_left _ (List.mem_of_getElem? (i := 12) rfl)))))) rfl
theorem ms61 : Cond.selects "MarginnoteModel" ⟨"MarginnoteModel", "isBlock", "(II)Z"⟩ ⟨"MarginnoteModel", "isBlock", "(II)Z"⟩ ∈ GW := GW_s (q := (⟨"MarginnoteModel", "isBlock", "(II)Z"⟩, 45)) (show _ ∈ lw_privs from (List.mem_append_right _ (List.mem_append_right _ (List.mem_append_right _ (List.mem_append_left _ (List.mem_of_getElem? (i := 13) rfl)))))) rfl
theorem ms62 : Cond.selects "MarginnoteModel" ⟨"MarginnoteModel", "shownBlocks", "()I"⟩ ⟨"MarginnoteModel", "shownBlocks", "()I"⟩ ∈ GW := GW_s (q := (⟨"MarginnoteModel", "shownBlocks", "()I"⟩, 45)) (show _ ∈ lw_privs from (List.mem_append_right _ (List.mem_append_right _ (List.mem_append_right _ (List.mem_append_left _ (List.mem_of_getElem? (i := 14) rfl)))))) rfl
theorem ms63 : Cond.selects "MarginnoteModel" ⟨"MarginnoteModel", "blockNumber", "(I)I"⟩ ⟨"MarginnoteModel", "blockNumber", "(I)I"⟩ ∈ GW := GW_s (q := (⟨"MarginnoteModel", "blockNumber", "(I)I"⟩, 45)) (show _ ∈ lw_privs from (List.mem_append_right _ (List.mem_append_right _ (List.mem_append_right _ (List.mem_append_left _ (List.mem_of_getElem? (i := 15) rfl)))))) rfl
theorem ms64 : Cond.selects "MarginnoteModel" ⟨"MarginnoteModel", "hasAct", "(II)Z"⟩ ⟨"MarginnoteModel", "hasAct", "(II)Z"⟩ ∈ GW := GW_s (q := (⟨"MarginnoteModel", "hasAct", "(II)Z"⟩, 45)) (show _ ∈ lw_privs from (List.mem_append_right _ (List.mem_append_right _ (List.mem_append_right _ (List.mem_append_right _ (List.mem_of_getElem? (i := 0) rfl)))))) rfl
theorem ms65 : Cond.selects "MarginnoteModel" ⟨"MarginnoteModel", "knowsOf", "(III)Z"⟩ ⟨"MarginnoteModel", "knowsOf", "(III)Z"⟩ ∈ GW := GW_s (q := (⟨"MarginnoteModel", "knowsOf", "(III)Z"⟩, 45)) (show _ ∈ lw_privs from (List.mem_append_right _ (List.mem_append_right _ (List.mem_append_right _ (List.mem_append_right _ (List.mem_of_getElem? (i := 1) rfl)))))) rfl
theorem ms66 : Cond.selects "MarginnoteModel" ⟨"MarginnoteModel", "isSafe", "(II)Z"⟩ ⟨"MarginnoteModel", "isSafe", "(II)Z"⟩ ∈ GW := GW_s (q := (⟨"MarginnoteModel", "isSafe", "(II)Z"⟩, 45)) (show _ ∈ lw_privs from (List.mem_append_right _ (List.mem_append_right _ (List.mem_append_right _ (List.mem_append_right _ (List.mem_of_getElem? (i := 2) rfl)))))) rfl
theorem ms67 : Cond.selects "MarginnoteModel" ⟨"MarginnoteModel", "isVersion", "(I)Z"⟩ ⟨"MarginnoteModel", "isVersion", "(I)Z"⟩ ∈ GW := GW_s (q := (⟨"MarginnoteModel", "isVersion", "(I)Z"⟩, 45)) (show _ ∈ lw_privs from (List.mem_append_right _ (List.mem_append_right _ (List.mem_append_right _ (List.mem_append_right _ (List.mem_of_getElem? (i := 3) rfl)))))) rfl
theorem ms68 : Cond.selects "MarginnoteModel" ⟨"MarginnoteModel", "keeps", "(I)V"⟩ ⟨"MarginnoteModel", "keeps", "(I)V"⟩ ∈ GW := GW_s (q := (⟨"MarginnoteModel", "keeps", "(I)V"⟩, 45)) (show _ ∈ lw_privs from (List.mem_append_right _ (List.mem_append_right _ (List.mem_append_right _ (List.mem_append_right _ (List.mem_of_getElem? (i := 4) rfl)))))) rfl
theorem ms69 : Cond.selects "MarginnoteModel" ⟨"MarginnoteModel", "isPlace", "(II)Z"⟩ ⟨"MarginnoteModel", "isPlace", "(II)Z"⟩ ∈ GW := GW_s (q := (⟨"MarginnoteModel", "isPlace", "(II)Z"⟩, 45)) (show _ ∈ lw_privs from (List.mem_append_right _ (List.mem_append_right _ (List.mem_append_right _ (List.mem_append_right _ (List.mem_of_getElem? (i := 5) rfl)))))) rfl
theorem i_X0 : ∀ w ∈ u_ws RX0 TX0 2, w ∈ GW := by
  intro w h
  obtain ⟨k, hk, rfl⟩ := List.mem_map.mp h
  have hk := List.mem_range.mp hk
  rcases (show k = 0 ∨ k = 1 by omega) with rfl | rfl
  · exact mw83
  · exact mw85
theorem i_X1 : ∀ w ∈ u_ws RX1 TX1 10, w ∈ GW := by
  intro w h
  obtain ⟨k, hk, rfl⟩ := List.mem_map.mp h
  have hk := List.mem_range.mp hk
  rcases (show k = 0 ∨ k = 1 ∨ k = 2 ∨ k = 3 ∨ k = 4 ∨ k = 5 ∨ k = 6 ∨ k = 7 ∨ k = 8 ∨ k = 9 by omega) with rfl | rfl | rfl | rfl | rfl | rfl | rfl | rfl | rfl | rfl
  · exact mw43
  · exact mw45
  · exact mw47
  · exact mw49
  · exact mw51
  · exact mw53
  · exact mw55
  · exact mw57
  · exact mw59
  · exact mw61
theorem i_X2 : ∀ w ∈ u_ws RX2 TX2 3, w ∈ GW := by
  intro w h
  obtain ⟨k, hk, rfl⟩ := List.mem_map.mp h
  have hk := List.mem_range.mp hk
  rcases (show k = 0 ∨ k = 1 ∨ k = 2 by omega) with rfl | rfl | rfl
  · exact mw727
  · exact mw729
  · exact mw731
theorem i_X3 : ∀ w ∈ u_ws RX3 TX3 12, w ∈ GW := by
  intro w h
  obtain ⟨k, hk, rfl⟩ := List.mem_map.mp h
  have hk := List.mem_range.mp hk
  rcases (show k = 0 ∨ k = 1 ∨ k = 2 ∨ k = 3 ∨ k = 4 ∨ k = 5 ∨ k = 6 ∨ k = 7 ∨ k = 8 ∨ k = 9 ∨ k = 10 ∨ k = 11 by omega) with rfl | rfl | rfl | rfl | rfl | rfl | rfl | rfl | rfl | rfl | rfl | rfl
  · exact mw108
  · exact mw110
  · exact mw112
  · exact mw114
  · exact mw116
  · exact mw118
  · exact mw120
  · exact mw122
  · exact mw124
  · exact mw126
  · exact mw128
  · exact mw130
theorem i_X4 : ∀ w ∈ u_ws RX4 TX4 10, w ∈ GW := by
  intro w h
  obtain ⟨k, hk, rfl⟩ := List.mem_map.mp h
  have hk := List.mem_range.mp hk
  rcases (show k = 0 ∨ k = 1 ∨ k = 2 ∨ k = 3 ∨ k = 4 ∨ k = 5 ∨ k = 6 ∨ k = 7 ∨ k = 8 ∨ k = 9 by omega) with rfl | rfl | rfl | rfl | rfl | rfl | rfl | rfl | rfl | rfl
  · exact mw152
  · exact mw154
  · exact mw156
  · exact mw158
  · exact mw160
  · exact mw162
  · exact mw164
  · exact mw166
  · exact mw168
  · exact mw170
theorem i_X5 : ∀ w ∈ u_ws RX5 TX5 11, w ∈ GW := by
  intro w h
  obtain ⟨k, hk, rfl⟩ := List.mem_map.mp h
  have hk := List.mem_range.mp hk
  rcases (show k = 0 ∨ k = 1 ∨ k = 2 ∨ k = 3 ∨ k = 4 ∨ k = 5 ∨ k = 6 ∨ k = 7 ∨ k = 8 ∨ k = 9 ∨ k = 10 by omega) with rfl | rfl | rfl | rfl | rfl | rfl | rfl | rfl | rfl | rfl | rfl
  · exact mw191
  · exact mw193
  · exact mw195
  · exact mw197
  · exact mw199
  · exact mw201
  · exact mw203
  · exact mw205
  · exact mw207
  · exact mw209
  · exact mw211
theorem i_X6 : ∀ w ∈ u_ws RX6 TX6 45, w ∈ GW := by
  intro w h
  obtain ⟨k, hk, rfl⟩ := List.mem_map.mp h
  have hk := List.mem_range.mp hk
  rcases (show k = 0 ∨ k = 1 ∨ k = 2 ∨ k = 3 ∨ k = 4 ∨ k = 5 ∨ k = 6 ∨ k = 7 ∨ k = 8 ∨ k = 9 ∨ k = 10 ∨ k = 11 ∨ k = 12 ∨ k = 13 ∨ k = 14 ∨ k = 15 ∨ k = 16 ∨ k = 17 ∨ k = 18 ∨ k = 19 ∨ k = 20 ∨ k = 21 ∨ k = 22 ∨ k = 23 ∨ k = 24 ∨ k = 25 ∨ k = 26 ∨ k = 27 ∨ k = 28 ∨ k = 29 ∨ k = 30 ∨ k = 31 ∨ k = 32 ∨ k = 33 ∨ k = 34 ∨ k = 35 ∨ k = 36 ∨ k = 37 ∨ k = 38 ∨ k = 39 ∨ k = 40 ∨ k = 41 ∨ k = 42 ∨ k = 43 ∨ k = 44 by omega) with rfl | rfl | rfl | rfl | rfl | rfl | rfl | rfl | rfl | rfl | rfl | rfl | rfl | rfl | rfl | rfl | rfl | rfl | rfl | rfl | rfl | rfl | rfl | rfl | rfl | rfl | rfl | rfl | rfl | rfl | rfl | rfl | rfl | rfl | rfl | rfl | rfl | rfl | rfl | rfl | rfl | rfl | rfl | rfl | rfl
  · exact mw1091
  · exact mw1093
  · exact mw1095
  · exact mw1097
  · exact mw1099
  · exact mw1101
  · exact mw1103
  · exact mw1105
  · exact mw1107
  · exact mw1109
  · exact mw1111
  · exact mw1113
  · exact mw1115
  · exact mw1117
  · exact mw1119
  · exact mw1121
  · exact mw1123
  · exact mw1125
  · exact mw1127
  · exact mw1129
  · exact mw1131
  · exact mw1133
  · exact mw1135
  · exact mw1137
  · exact mw1139
  · exact mw1141
  · exact mw1143
  · exact mw1145
  · exact mw1147
  · exact mw1149
  · exact mw1151
  · exact mw1153
  · exact mw1155
  · exact mw1157
  · exact mw1159
  · exact mw1161
  · exact mw1163
  · exact mw1165
  · exact mw1167
  · exact mw1169
  · exact mw1171
  · exact mw1173
  · exact mw1175
  · exact mw1177
  · exact mw1179
