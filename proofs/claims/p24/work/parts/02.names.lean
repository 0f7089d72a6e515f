def RX0 : String := "AttribArbor$Equation"
def TX0 : u_T := fun k => match k with
  | 0 => ("AttribArbor$Equation", "production", "I", false)
  | 1 => ("AttribArbor$Equation", "attribute", "I", false)
  | 2 => ("AttribArbor$Equation", "target", "I", false)
  | 3 => ("AttribArbor$Equation", "aspect", "I", false)
  | 4 => ("AttribArbor$Equation", "size", "I", false)
  | 5 => ("AttribArbor$Equation", "standing", "I", false)
  | 6 => ("AttribArbor$Equation", "kinds", "[I", true)
  | 7 => ("AttribArbor$Equation", "numbers", "[I", true)
  | 8 => ("AttribArbor$Equation", "children", "[I", true)
  | 9 => ("AttribArbor$Equation", "users", "[I", true)
  | 10 => ("AttribArbor$Equation", "roles", "[I", true)
  | 11 => ("AttribArbor$Equation", "starts", "[I", true)
  | _ => ("AttribArbor$Equation", "stack", "[I", true)
def tyX0 : Nat → FieldType := fun k => match k with
  | 0 => .int
  | 1 => .int
  | 2 => .int
  | 3 => .int
  | 4 => .int
  | 5 => .int
  | 6 => .array .int
  | 7 => .array .int
  | 8 => .array .int
  | 9 => .array .int
  | 10 => .array .int
  | 11 => .array .int
  | _ => .array .int
abbrev wsX00 : List Cond := u_ws RX0 TX0 13
theorem nmX0 : ∀ a, a < 13 → ∀ b, b < 13 → a ≠ b → (TX0 a).2.1 ≠ (TX0 b).2.1 := by decide +kernel
theorem tyX0_ok : ∀ k, k < 13 → parseFieldDescriptor (TX0 k).2.2.1 = some (tyX0 k) := by decide +kernel
abbrev cX0_init : ByteArray := prog_2_method_1_code
def yX0_init : MethodName := ⟨RX0, "<init>", "()V"⟩
abbrev cX0_append : ByteArray := prog_2_method_2_code
def yX0_append : MethodName := ⟨RX0, "append", "(III)V"⟩
abbrev cX0_clear : ByteArray := prog_2_method_3_code
def yX0_clear : MethodName := ⟨RX0, "clear", "()V"⟩
abbrev cX0_place : ByteArray := prog_2_method_4_code
def yX0_place : MethodName := ⟨RX0, "place", "(IIII)V"⟩
abbrev cX0_take : ByteArray := prog_2_method_5_code
def yX0_take : MethodName := ⟨RX0, "take", "(LAttribArbor$Equation;)V"⟩
abbrev cX0_isFor : ByteArray := prog_2_method_6_code
def yX0_isFor : MethodName := ⟨RX0, "isFor", "(III)Z"⟩
abbrev cX0_kindOf : ByteArray := prog_2_method_7_code
def yX0_kindOf : MethodName := ⟨RX0, "kindOf", "(I)I"⟩
abbrev cX0_numberOf : ByteArray := prog_2_method_8_code
def yX0_numberOf : MethodName := ⟨RX0, "numberOf", "(I)I"⟩
abbrev cX0_childOf : ByteArray := prog_2_method_9_code
def yX0_childOf : MethodName := ⟨RX0, "childOf", "(I)I"⟩
abbrev cX0_userOf : ByteArray := prog_2_method_10_code
def yX0_userOf : MethodName := ⟨RX0, "userOf", "(I)I"⟩
abbrev cX0_roleOf : ByteArray := prog_2_method_11_code
def yX0_roleOf : MethodName := ⟨RX0, "roleOf", "(I)I"⟩
abbrev cX0_startOf : ByteArray := prog_2_method_12_code
def yX0_startOf : MethodName := ⟨RX0, "startOf", "(I)I"⟩
def RX1 : String := "AttribArbor$Equations"
def TX1 : u_T := fun k => match k with
  | 0 => ("AttribArbor$Equations", "count", "I", false)
  | 1 => ("AttribArbor$Equations", "rows", "[LAttribArbor$Equation;", true)
  | 2 => ("AttribArbor$Equations", "off", "[Z", true)
  | 3 => ("AttribArbor$Equations", "grammar", "LAttribArbor$Grammar;", true)
  | 4 => ("AttribArbor$Equations", "views", "LAttribArbor$Views;", true)
  | 5 => ("AttribArbor$Equations", "singles", "[I", true)
  | 6 => ("AttribArbor$Equations", "resolved", "[I", true)
  | 7 => ("AttribArbor$Equations", "hops", "[I", true)
  | 8 => ("AttribArbor$Equations", "firstGifts", "[I", true)
  | _ => ("AttribArbor$Equations", "nextGifts", "[I", true)
def tyX1 : Nat → FieldType := fun k => match k with
  | 0 => .int
  | 1 => .array (.object "AttribArbor$Equation")
  | 2 => .array .boolean
  | 3 => .object "AttribArbor$Grammar"
  | 4 => .object "AttribArbor$Views"
  | 5 => .array .int
  | 6 => .array .int
  | 7 => .array .int
  | 8 => .array .int
  | _ => .array .int
abbrev wsX10 : List Cond := u_ws RX1 TX1 10
theorem nmX1 : ∀ a, a < 10 → ∀ b, b < 10 → a ≠ b → (TX1 a).2.1 ≠ (TX1 b).2.1 := by decide +kernel
theorem tyX1_ok : ∀ k, k < 10 → parseFieldDescriptor (TX1 k).2.2.1 = some (tyX1 k) := by decide +kernel
abbrev cX1_init : ByteArray := prog_3_method_1_code
def yX1_init : MethodName := ⟨RX1, "<init>", "(LAttribArbor$Grammar;LAttribArbor$Views;)V"⟩
abbrev cX1_append : ByteArray := prog_3_method_2_code
def yX1_append : MethodName := ⟨RX1, "append", "(LAttribArbor$Equation;)I"⟩
abbrev cX1_turnAspect : ByteArray := prog_3_method_3_code
def yX1_turnAspect : MethodName := ⟨RX1, "turnAspect", "(I)Z"⟩
abbrev cX1_rowOf : ByteArray := prog_3_method_4_code
def yX1_rowOf : MethodName := ⟨RX1, "rowOf", "(I)LAttribArbor$Equation;"⟩
abbrev cX1_counts : ByteArray := prog_3_method_5_code
def yX1_counts : MethodName := ⟨RX1, "counts", "(LAttribArbor$Equation;)Z"⟩
abbrev cX1_arrange : ByteArray := prog_3_method_6_code
def yX1_arrange : MethodName := ⟨RX1, "arrange", "()V"⟩
abbrev cX1_arrangeOne : ByteArray := prog_3_method_7_code
def yX1_arrangeOne : MethodName := ⟨RX1, "arrangeOne", "(LAttribArbor$Equation;I)V"⟩
abbrev cX1_resolve : ByteArray := prog_3_method_8_code
def yX1_resolve : MethodName := ⟨RX1, "resolve", "(III)V"⟩
abbrev cX1_placeOf : ByteArray := prog_3_method_9_code
def yX1_placeOf : MethodName := ⟨RX1, "placeOf", "(III)I"⟩
abbrev cX1_resolvedFor : ByteArray := prog_3_method_10_code
def yX1_resolvedFor : MethodName := ⟨RX1, "resolvedFor", "(III)I"⟩
abbrev cX1_hopsFor : ByteArray := prog_3_method_11_code
def yX1_hopsFor : MethodName := ⟨RX1, "hopsFor", "(III)I"⟩
abbrev cX1_firstGiftOf : ByteArray := prog_3_method_12_code
def yX1_firstGiftOf : MethodName := ⟨RX1, "firstGiftOf", "(II)I"⟩
abbrev cX1_nextGiftOf : ByteArray := prog_3_method_13_code
def yX1_nextGiftOf : MethodName := ⟨RX1, "nextGiftOf", "(I)I"⟩
abbrev cX1_countConflicts : ByteArray := prog_3_method_14_code
def yX1_countConflicts : MethodName := ⟨RX1, "countConflicts", "()I"⟩
abbrev cX1_isInConflict : ByteArray := prog_3_method_15_code
def yX1_isInConflict : MethodName := ⟨RX1, "isInConflict", "(LAttribArbor$Equation;)Z"⟩
def RX2 : String := "AttribArbor$Finder"
def TX2 : u_T := fun k => match k with
  | 0 => ("AttribArbor$Finder", "listed", "I", false)
  | 1 => ("AttribArbor$Finder", "list", "[I", true)
  | 2 => ("AttribArbor$Finder", "grammar", "LAttribArbor$Grammar;", true)
  | 3 => ("AttribArbor$Finder", "equations", "LAttribArbor$Equations;", true)
  | 4 => ("AttribArbor$Finder", "views", "LAttribArbor$Views;", true)
  | 5 => ("AttribArbor$Finder", "tree", "LAttribArbor$Tree;", true)
  | 6 => ("AttribArbor$Finder", "ringValues", "[I", true)
  | 7 => ("AttribArbor$Finder", "frames", "[LAttribArbor$Frame;", true)
  | 8 => ("AttribArbor$Finder", "open", "[Z", true)
  | 9 => ("AttribArbor$Finder", "depth", "I", false)
  | 10 => ("AttribArbor$Finder", "wanted", "I", false)
  | 11 => ("AttribArbor$Finder", "listing", "Z", false)
  | _ => ("AttribArbor$Finder", "book", "LAttribArbor$Findings;", false)
def tyX2 : Nat → FieldType := fun k => match k with
  | 0 => .int
  | 1 => .array .int
  | 2 => .object "AttribArbor$Grammar"
  | 3 => .object "AttribArbor$Equations"
  | 4 => .object "AttribArbor$Views"
  | 5 => .object "AttribArbor$Tree"
  | 6 => .array .int
  | 7 => .array (.object "AttribArbor$Frame")
  | 8 => .array .boolean
  | 9 => .int
  | 10 => .int
  | 11 => .boolean
  | _ => .object "AttribArbor$Findings"
abbrev wsX20 : List Cond := u_ws RX2 TX2 13
theorem nmX2 : ∀ a, a < 13 → ∀ b, b < 13 → a ≠ b → (TX2 a).2.1 ≠ (TX2 b).2.1 := by decide +kernel
theorem tyX2_ok : ∀ k, k < 13 → parseFieldDescriptor (TX2 k).2.2.1 = some (tyX2 k) := by decide +kernel
abbrev cX2_init : ByteArray := prog_4_method_1_code
def yX2_init : MethodName := ⟨RX2, "<init>", "(LAttribArbor$Grammar;LAttribArbor$Equations;LAttribArbor$Views;LAttribArbor$Tree;[I)V"⟩
abbrev cX2_findListing : ByteArray := prog_4_method_2_code
def yX2_findListing : MethodName := ⟨RX2, "findListing", "(IILAttribArbor$Findings;)V"⟩
abbrev cX2_find : ByteArray := prog_4_method_3_code
def yX2_find : MethodName := ⟨RX2, "find", "(IILAttribArbor$Findings;)I"⟩
abbrev cX2_topFrame : ByteArray := prog_4_method_4_code
def yX2_topFrame : MethodName := ⟨RX2, "topFrame", "()LAttribArbor$Frame;"⟩
abbrev cX2_setOpen : ByteArray := prog_4_method_5_code
def yX2_setOpen : MethodName := ⟨RX2, "setOpen", "(IZ)V"⟩
abbrev cX2_isOpen : ByteArray := prog_4_method_6_code
def yX2_isOpen : MethodName := ⟨RX2, "isOpen", "(I)Z"⟩
abbrev cX2_begin : ByteArray := prog_4_method_7_code
def yX2_begin : MethodName := ⟨RX2, "begin", "(I)V"⟩
abbrev cX2_beginEquation : ByteArray := prog_4_method_8_code
def yX2_beginEquation : MethodName := ⟨RX2, "beginEquation", "(LAttribArbor$Frame;II)V"⟩
abbrev cX2_beginGift : ByteArray := prog_4_method_9_code
def yX2_beginGift : MethodName := ⟨RX2, "beginGift", "(LAttribArbor$Frame;I)V"⟩
abbrev cX2_close : ByteArray := prog_4_method_10_code
def yX2_close : MethodName := ⟨RX2, "close", "(LAttribArbor$Frame;)V"⟩
abbrev cX2_goOn : ByteArray := prog_4_method_11_code
def yX2_goOn : MethodName := ⟨RX2, "goOn", "(LAttribArbor$Frame;)Z"⟩
abbrev cX2_takeWhole : ByteArray := prog_4_method_12_code
def yX2_takeWhole : MethodName := ⟨RX2, "takeWhole", "(LAttribArbor$Frame;I)V"⟩
abbrev cX2_lookAtStep : ByteArray := prog_4_method_13_code
def yX2_lookAtStep : MethodName := ⟨RX2, "lookAtStep", "(LAttribArbor$Frame;LAttribArbor$Equation;I)I"⟩
abbrev cX2_childFor : ByteArray := prog_4_method_14_code
def yX2_childFor : MethodName := ⟨RX2, "childFor", "(LAttribArbor$Frame;I)I"⟩
abbrev cX2_letterFor : ByteArray := prog_4_method_15_code
def yX2_letterFor : MethodName := ⟨RX2, "letterFor", "(LAttribArbor$Frame;I)I"⟩
abbrev cX2_lookAt : ByteArray := prog_4_method_16_code
def yX2_lookAt : MethodName := ⟨RX2, "lookAt", "(LAttribArbor$Frame;II)I"⟩
abbrev cX2_enlist : ByteArray := prog_4_method_17_code
def yX2_enlist : MethodName := ⟨RX2, "enlist", "(I)V"⟩
def RX3 : String := "AttribArbor$Findings"
def TX3 : u_T := fun k => match k with
  | 0 => ("AttribArbor$Findings", "made", "I", false)
  | 1 => ("AttribArbor$Findings", "values", "[I", true)
  | 2 => ("AttribArbor$Findings", "hangs", "[I", true)
  | 3 => ("AttribArbor$Findings", "nextValues", "[I", true)
  | _ => ("AttribArbor$Findings", "nextHangs", "[I", true)
def tyX3 : Nat → FieldType := fun k => match k with
  | 0 => .int
  | 1 => .array .int
  | 2 => .array .int
  | 3 => .array .int
  | _ => .array .int
abbrev wsX30 : List Cond := u_ws RX3 TX3 5
theorem nmX3 : ∀ a, a < 5 → ∀ b, b < 5 → a ≠ b → (TX3 a).2.1 ≠ (TX3 b).2.1 := by decide +kernel
theorem tyX3_ok : ∀ k, k < 5 → parseFieldDescriptor (TX3 k).2.2.1 = some (tyX3 k) := by decide +kernel
abbrev cX3_init : ByteArray := prog_5_method_1_code
def yX3_init : MethodName := ⟨RX3, "<init>", "()V"⟩
abbrev cX3_has : ByteArray := prog_5_method_2_code
def yX3_has : MethodName := ⟨RX3, "has", "(I)Z"⟩
abbrev cX3_valueOf : ByteArray := prog_5_method_3_code
def yX3_valueOf : MethodName := ⟨RX3, "valueOf", "(I)I"⟩
abbrev cX3_hangsOf : ByteArray := prog_5_method_4_code
def yX3_hangsOf : MethodName := ⟨RX3, "hangsOf", "(I)I"⟩
abbrev cX3_keep : ByteArray := prog_5_method_5_code
def yX3_keep : MethodName := ⟨RX3, "keep", "(III)V"⟩
abbrev cX3_clear : ByteArray := prog_5_method_6_code
def yX3_clear : MethodName := ⟨RX3, "clear", "()V"⟩
abbrev cX3_drop : ByteArray := prog_5_method_7_code
def yX3_drop : MethodName := ⟨RX3, "drop", "(I)V"⟩
abbrev cX3_follow : ByteArray := prog_5_method_8_code
def yX3_follow : MethodName := ⟨RX3, "follow", "(LAttribArbor$Tree;)V"⟩
abbrev cX3_valueInHeirs : ByteArray := prog_5_method_9_code
def yX3_valueInHeirs : MethodName := ⟨RX3, "valueInHeirs", "(LAttribArbor$Tree;I)I"⟩
abbrev cX3_bitsInHeirs : ByteArray := prog_5_method_10_code
def yX3_bitsInHeirs : MethodName := ⟨RX3, "bitsInHeirs", "(LAttribArbor$Tree;I)I"⟩
def RX4 : String := "AttribArbor$Frame"
def TX4 : u_T := fun k => match k with
  | 0 => ("AttribArbor$Frame", "node", "I", false)
  | 1 => ("AttribArbor$Frame", "attribute", "I", false)
  | 2 => ("AttribArbor$Frame", "at", "I", false)
  | 3 => ("AttribArbor$Frame", "production", "I", false)
  | 4 => ("AttribArbor$Frame", "hops", "I", false)
  | 5 => ("AttribArbor$Frame", "equation", "LAttribArbor$Equation;", false)
  | 6 => ("AttribArbor$Frame", "next", "I", false)
  | 7 => ("AttribArbor$Frame", "hangs", "I", false)
  | 8 => ("AttribArbor$Frame", "answer", "I", false)
  | 9 => ("AttribArbor$Frame", "settled", "Z", false)
  | 10 => ("AttribArbor$Frame", "gift", "I", false)
  | 11 => ("AttribArbor$Frame", "inSecond", "Z", false)
  | 12 => ("AttribArbor$Frame", "sum", "I", false)
  | _ => ("AttribArbor$Frame", "held", "[I", true)
def tyX4 : Nat → FieldType := fun k => match k with
  | 0 => .int
  | 1 => .int
  | 2 => .int
  | 3 => .int
  | 4 => .int
  | 5 => .object "AttribArbor$Equation"
  | 6 => .int
  | 7 => .int
  | 8 => .int
  | 9 => .boolean
  | 10 => .int
  | 11 => .boolean
  | 12 => .int
  | _ => .array .int
abbrev wsX40 : List Cond := u_ws RX4 TX4 14
theorem nmX4 : ∀ a, a < 14 → ∀ b, b < 14 → a ≠ b → (TX4 a).2.1 ≠ (TX4 b).2.1 := by decide +kernel
theorem tyX4_ok : ∀ k, k < 14 → parseFieldDescriptor (TX4 k).2.2.1 = some (tyX4 k) := by decide +kernel
abbrev cX4_init : ByteArray := prog_6_method_1_code
def yX4_init : MethodName := ⟨RX4, "<init>", "()V"⟩
abbrev cX4_settle : ByteArray := prog_6_method_2_code
def yX4_settle : MethodName := ⟨RX4, "settle", "(I)V"⟩
abbrev cX4_heldFor : ByteArray := prog_6_method_3_code
def yX4_heldFor : MethodName := ⟨RX4, "heldFor", "(I)I"⟩
abbrev cX4_climb : ByteArray := prog_6_method_4_code
def yX4_climb : MethodName := ⟨RX4, "climb", "(LAttribArbor$Equation;II)I"⟩
abbrev cX4_takeUp : ByteArray := prog_6_method_5_code
def yX4_takeUp : MethodName := ⟨RX4, "takeUp", "(LAttribArbor$Equation;III)I"⟩
abbrev cX4_joined : ByteArray := prog_6_method_6_code
def yX4_joined : MethodName := ⟨RX4, "joined", "(III)I"⟩
def RX5 : String := "AttribArbor$Grammar"
def TX5 : u_T := fun k => match k with
  | 0 => ("AttribArbor$Grammar", "productions", "I", false)
  | 1 => ("AttribArbor$Grammar", "attributes", "I", false)
  | 2 => ("AttribArbor$Grammar", "heads", "[I", true)
  | 3 => ("AttribArbor$Grammar", "lengths", "[I", true)
  | 4 => ("AttribArbor$Grammar", "symbols", "[I", true)
  | 5 => ("AttribArbor$Grammar", "childCounts", "[I", true)
  | 6 => ("AttribArbor$Grammar", "childHeads", "[I", true)
  | 7 => ("AttribArbor$Grammar", "letterCounts", "[I", true)
  | 8 => ("AttribArbor$Grammar", "letters", "[I", true)
  | 9 => ("AttribArbor$Grammar", "forwards", "[I", true)
  | 10 => ("AttribArbor$Grammar", "standIns", "[I", true)
  | 11 => ("AttribArbor$Grammar", "ruleAttributes", "[I", true)
  | 12 => ("AttribArbor$Grammar", "ruleOthers", "[I", true)
  | _ => ("AttribArbor$Grammar", "kinds", "[I", true)
def tyX5 : Nat → FieldType := fun k => match k with
  | 0 => .int
  | 1 => .int
  | 2 => .array .int
  | 3 => .array .int
  | 4 => .array .int
  | 5 => .array .int
  | 6 => .array .int
  | 7 => .array .int
  | 8 => .array .int
  | 9 => .array .int
  | 10 => .array .int
  | 11 => .array .int
  | 12 => .array .int
  | _ => .array .int
abbrev wsX50 : List Cond := u_ws RX5 TX5 14
theorem nmX5 : ∀ a, a < 14 → ∀ b, b < 14 → a ≠ b → (TX5 a).2.1 ≠ (TX5 b).2.1 := by decide +kernel
theorem tyX5_ok : ∀ k, k < 14 → parseFieldDescriptor (TX5 k).2.2.1 = some (tyX5 k) := by decide +kernel
abbrev cX5_init : ByteArray := prog_7_method_1_code
def yX5_init : MethodName := ⟨RX5, "<init>", "()V"⟩
abbrev cX5_addProduction : ByteArray := prog_7_method_2_code
def yX5_addProduction : MethodName := ⟨RX5, "addProduction", "(IIII)I"⟩
abbrev cX5_appendSymbol : ByteArray := prog_7_method_3_code
def yX5_appendSymbol : MethodName := ⟨RX5, "appendSymbol", "(II)V"⟩
abbrev cX5_appendTo : ByteArray := prog_7_method_4_code
def yX5_appendTo : MethodName := ⟨RX5, "appendTo", "([I[III)V"⟩
abbrev cX5_addAttribute : ByteArray := prog_7_method_5_code
def yX5_addAttribute : MethodName := ⟨RX5, "addAttribute", "(I)I"⟩
abbrev cX5_tellForward : ByteArray := prog_7_method_6_code
def yX5_tellForward : MethodName := ⟨RX5, "tellForward", "(IIIII)I"⟩
abbrev cX5_tellRule : ByteArray := prog_7_method_7_code
def yX5_tellRule : MethodName := ⟨RX5, "tellRule", "(III)I"⟩
abbrev cX5_hasProduction : ByteArray := prog_7_method_8_code
def yX5_hasProduction : MethodName := ⟨RX5, "hasProduction", "(I)Z"⟩
abbrev cX5_hasAttribute : ByteArray := prog_7_method_9_code
def yX5_hasAttribute : MethodName := ⟨RX5, "hasAttribute", "(I)Z"⟩
abbrev cX5_kindOf : ByteArray := prog_7_method_10_code
def yX5_kindOf : MethodName := ⟨RX5, "kindOf", "(I)I"⟩
abbrev cX5_headOf : ByteArray := prog_7_method_11_code
def yX5_headOf : MethodName := ⟨RX5, "headOf", "(I)I"⟩
abbrev cX5_lengthOf : ByteArray := prog_7_method_12_code
def yX5_lengthOf : MethodName := ⟨RX5, "lengthOf", "(I)I"⟩
abbrev cX5_symbolOf : ByteArray := prog_7_method_13_code
def yX5_symbolOf : MethodName := ⟨RX5, "symbolOf", "(II)I"⟩
abbrev cX5_childCountOf : ByteArray := prog_7_method_14_code
def yX5_childCountOf : MethodName := ⟨RX5, "childCountOf", "(I)I"⟩
abbrev cX5_childHeadOf : ByteArray := prog_7_method_15_code
def yX5_childHeadOf : MethodName := ⟨RX5, "childHeadOf", "(II)I"⟩
abbrev cX5_letterOf : ByteArray := prog_7_method_16_code
def yX5_letterOf : MethodName := ⟨RX5, "letterOf", "(II)I"⟩
abbrev cX5_forwardOf : ByteArray := prog_7_method_17_code
def yX5_forwardOf : MethodName := ⟨RX5, "forwardOf", "(I)I"⟩
abbrev cX5_standInOf : ByteArray := prog_7_method_18_code
def yX5_standInOf : MethodName := ⟨RX5, "standInOf", "(II)I"⟩
abbrev cX5_ruleAttributeOf : ByteArray := prog_7_method_19_code
def yX5_ruleAttributeOf : MethodName := ⟨RX5, "ruleAttributeOf", "(I)I"⟩
abbrev cX5_ruleOtherOf : ByteArray := prog_7_method_20_code
def yX5_ruleOtherOf : MethodName := ⟨RX5, "ruleOtherOf", "(I)I"⟩
abbrev cX5_isAlikeInShape : ByteArray := prog_7_method_21_code
def yX5_isAlikeInShape : MethodName := ⟨RX5, "isAlikeInShape", "(II)Z"⟩
def RX6 : String := "AttribArbor$HangGraph"
def TX6 : u_T := fun k => match k with
  | 0 => ("AttribArbor$HangGraph", "grammar", "LAttribArbor$Grammar;", true)
  | 1 => ("AttribArbor$HangGraph", "equations", "LAttribArbor$Equations;", true)
  | 2 => ("AttribArbor$HangGraph", "views", "LAttribArbor$Views;", true)
  | 3 => ("AttribArbor$HangGraph", "hangs", "[I", true)
  | _ => ("AttribArbor$HangGraph", "relations", "[I", true)
def tyX6 : Nat → FieldType := fun k => match k with
  | 0 => .object "AttribArbor$Grammar"
  | 1 => .object "AttribArbor$Equations"
  | 2 => .object "AttribArbor$Views"
  | 3 => .array .int
  | _ => .array .int
abbrev wsX60 : List Cond := u_ws RX6 TX6 5
theorem nmX6 : ∀ a, a < 5 → ∀ b, b < 5 → a ≠ b → (TX6 a).2.1 ≠ (TX6 b).2.1 := by decide +kernel
theorem tyX6_ok : ∀ k, k < 5 → parseFieldDescriptor (TX6 k).2.2.1 = some (tyX6 k) := by decide +kernel
abbrev cX6_init : ByteArray := prog_8_method_1_code
def yX6_init : MethodName := ⟨RX6, "<init>", "(LAttribArbor$Grammar;LAttribArbor$Equations;LAttribArbor$Views;)V"⟩
abbrev cX6_firstRing : ByteArray := prog_8_method_2_code
def yX6_firstRing : MethodName := ⟨RX6, "firstRing", "()I"⟩
abbrev cX6_cornerOf : ByteArray := prog_8_method_3_code
def yX6_cornerOf : MethodName := ⟨RX6, "cornerOf", "(II)I"⟩
abbrev cX6_hasBit : ByteArray := prog_8_method_4_code
def yX6_hasBit : MethodName := ⟨RX6, "hasBit", "(II)Z"⟩
abbrev cX6_hang : ByteArray := prog_8_method_5_code
def yX6_hang : MethodName := ⟨RX6, "hang", "(II)V"⟩
abbrev cX6_isOfKind : ByteArray := prog_8_method_6_code
def yX6_isOfKind : MethodName := ⟨RX6, "isOfKind", "(II)Z"⟩
abbrev cX6_draw : ByteArray := prog_8_method_7_code
def yX6_draw : MethodName := ⟨RX6, "draw", "(I)V"⟩
abbrev cX6_drawChild : ByteArray := prog_8_method_8_code
def yX6_drawChild : MethodName := ⟨RX6, "drawChild", "(III)V"⟩
abbrev cX6_drawEquations : ByteArray := prog_8_method_9_code
def yX6_drawEquations : MethodName := ⟨RX6, "drawEquations", "(III)Z"⟩
abbrev cX6_drawSteps : ByteArray := prog_8_method_10_code
def yX6_drawSteps : MethodName := ⟨RX6, "drawSteps", "(LAttribArbor$Equation;III)V"⟩
abbrev cX6_tellRelations : ByteArray := prog_8_method_11_code
def yX6_tellRelations : MethodName := ⟨RX6, "tellRelations", "(I)Z"⟩
abbrev cX6_downsOf : ByteArray := prog_8_method_12_code
def yX6_downsOf : MethodName := ⟨RX6, "downsOf", "(I)I"⟩
abbrev cX6_hasRing : ByteArray := prog_8_method_13_code
def yX6_hasRing : MethodName := ⟨RX6, "hasRing", "()Z"⟩
def RX7 : String := "AttribArbor$Rings"
def TX7 : u_T := fun k => match k with
  | 0 => ("AttribArbor$Rings", "grammar", "LAttribArbor$Grammar;", true)
  | 1 => ("AttribArbor$Rings", "tree", "LAttribArbor$Tree;", true)
  | 2 => ("AttribArbor$Rings", "finder", "LAttribArbor$Finder;", true)
  | 3 => ("AttribArbor$Rings", "scratch", "LAttribArbor$Findings;", true)
  | 4 => ("AttribArbor$Rings", "now", "[I", true)
  | 5 => ("AttribArbor$Rings", "next", "[I", true)
  | _ => ("AttribArbor$Rings", "ready", "Z", false)
def tyX7 : Nat → FieldType := fun k => match k with
  | 0 => .object "AttribArbor$Grammar"
  | 1 => .object "AttribArbor$Tree"
  | 2 => .object "AttribArbor$Finder"
  | 3 => .object "AttribArbor$Findings"
  | 4 => .array .int
  | 5 => .array .int
  | _ => .boolean
abbrev wsX70 : List Cond := u_ws RX7 TX7 7
theorem nmX7 : ∀ a, a < 7 → ∀ b, b < 7 → a ≠ b → (TX7 a).2.1 ≠ (TX7 b).2.1 := by decide +kernel
theorem tyX7_ok : ∀ k, k < 7 → parseFieldDescriptor (TX7 k).2.2.1 = some (tyX7 k) := by decide +kernel
abbrev cX7_init : ByteArray := prog_9_method_1_code
def yX7_init : MethodName := ⟨RX7, "<init>", "(LAttribArbor$Grammar;LAttribArbor$Tree;LAttribArbor$Finder;LAttribArbor$Findings;[I)V"⟩
abbrev cX7_forget : ByteArray := prog_9_method_2_code
def yX7_forget : MethodName := ⟨RX7, "forget", "()V"⟩
abbrev cX7_valueOf : ByteArray := prog_9_method_3_code
def yX7_valueOf : MethodName := ⟨RX7, "valueOf", "(I)I"⟩
abbrev cX7_settle : ByteArray := prog_9_method_4_code
def yX7_settle : MethodName := ⟨RX7, "settle", "()V"⟩
abbrev cX7_goRound : ByteArray := prog_9_method_5_code
def yX7_goRound : MethodName := ⟨RX7, "goRound", "()Z"⟩
def RX8 : String := "AttribArbor$Tree"
def TX8 : u_T := fun k => match k with
  | 0 => ("AttribArbor$Tree", "count", "I", false)
  | 1 => ("AttribArbor$Tree", "repairs", "I", false)
  | 2 => ("AttribArbor$Tree", "parents", "[I", true)
  | 3 => ("AttribArbor$Tree", "places", "[I", true)
  | 4 => ("AttribArbor$Tree", "readAs", "[I", true)
  | 5 => ("AttribArbor$Tree", "now", "[I", true)
  | 6 => ("AttribArbor$Tree", "children", "[I", true)
  | 7 => ("AttribArbor$Tree", "puts", "[I", true)
  | _ => ("AttribArbor$Tree", "heirs", "[I", true)
def tyX8 : Nat → FieldType := fun k => match k with
  | 0 => .int
  | 1 => .int
  | 2 => .array .int
  | 3 => .array .int
  | 4 => .array .int
  | 5 => .array .int
  | 6 => .array .int
  | 7 => .array .int
  | _ => .array .int
abbrev wsX80 : List Cond := u_ws RX8 TX8 9
theorem nmX8 : ∀ a, a < 9 → ∀ b, b < 9 → a ≠ b → (TX8 a).2.1 ≠ (TX8 b).2.1 := by decide +kernel
theorem tyX8_ok : ∀ k, k < 9 → parseFieldDescriptor (TX8 k).2.2.1 = some (tyX8 k) := by decide +kernel
abbrev cX8_init : ByteArray := prog_10_method_1_code
def yX8_init : MethodName := ⟨RX8, "<init>", "()V"⟩
abbrev cX8_clear : ByteArray := prog_10_method_2_code
def yX8_clear : MethodName := ⟨RX8, "clear", "()V"⟩
abbrev cX8_append : ByteArray := prog_10_method_3_code
def yX8_append : MethodName := ⟨RX8, "append", "(IIII)I"⟩
abbrev cX8_hasNode : ByteArray := prog_10_method_4_code
def yX8_hasNode : MethodName := ⟨RX8, "hasNode", "(I)Z"⟩
abbrev cX8_parentOf : ByteArray := prog_10_method_5_code
def yX8_parentOf : MethodName := ⟨RX8, "parentOf", "(I)I"⟩
abbrev cX8_placeOf : ByteArray := prog_10_method_6_code
def yX8_placeOf : MethodName := ⟨RX8, "placeOf", "(I)I"⟩
abbrev cX8_readAsOf : ByteArray := prog_10_method_7_code
def yX8_readAsOf : MethodName := ⟨RX8, "readAsOf", "(I)I"⟩
abbrev cX8_nowOf : ByteArray := prog_10_method_8_code
def yX8_nowOf : MethodName := ⟨RX8, "nowOf", "(I)I"⟩
abbrev cX8_rewriteTo : ByteArray := prog_10_method_9_code
def yX8_rewriteTo : MethodName := ⟨RX8, "rewriteTo", "(II)V"⟩
abbrev cX8_childOf : ByteArray := prog_10_method_10_code
def yX8_childOf : MethodName := ⟨RX8, "childOf", "(II)I"⟩
abbrev cX8_putOf : ByteArray := prog_10_method_11_code
def yX8_putOf : MethodName := ⟨RX8, "putOf", "(II)I"⟩
abbrev cX8_heirOf : ByteArray := prog_10_method_12_code
def yX8_heirOf : MethodName := ⟨RX8, "heirOf", "(I)I"⟩
abbrev cX8_compare : ByteArray := prog_10_method_13_code
def yX8_compare : MethodName := ⟨RX8, "compare", "(LAttribArbor$Tree;)I"⟩
abbrev cX8_isAlike : ByteArray := prog_10_method_14_code
def yX8_isAlike : MethodName := ⟨RX8, "isAlike", "(ILAttribArbor$Tree;I)Z"⟩
abbrev cX8_touched : ByteArray := prog_10_method_15_code
def yX8_touched : MethodName := ⟨RX8, "touched", "()I"⟩
abbrev cX8_take : ByteArray := prog_10_method_16_code
def yX8_take : MethodName := ⟨RX8, "take", "(LAttribArbor$Tree;)V"⟩
def RX9 : String := "AttribArbor$TreeReader"
def TX9 : u_T := fun k => match k with
  | 0 => ("AttribArbor$TreeReader", "length", "I", false)
  | 1 => ("AttribArbor$TreeReader", "grammar", "LAttribArbor$Grammar;", true)
  | 2 => ("AttribArbor$TreeReader", "text", "[I", true)
  | 3 => ("AttribArbor$TreeReader", "weights", "[I", true)
  | 4 => ("AttribArbor$TreeReader", "tails", "[I", true)
  | 5 => ("AttribArbor$TreeReader", "cut", "I", false)
  | 6 => ("AttribArbor$TreeReader", "waiting", "I", false)
  | 7 => ("AttribArbor$TreeReader", "heads", "[I", true)
  | 8 => ("AttribArbor$TreeReader", "froms", "[I", true)
  | 9 => ("AttribArbor$TreeReader", "tos", "[I", true)
  | 10 => ("AttribArbor$TreeReader", "parents", "[I", true)
  | 11 => ("AttribArbor$TreeReader", "places", "[I", true)
  | _ => ("AttribArbor$TreeReader", "ends", "[I", true)
def tyX9 : Nat → FieldType := fun k => match k with
  | 0 => .int
  | 1 => .object "AttribArbor$Grammar"
  | 2 => .array .int
  | 3 => .array .int
  | 4 => .array .int
  | 5 => .int
  | 6 => .int
  | 7 => .array .int
  | 8 => .array .int
  | 9 => .array .int
  | 10 => .array .int
  | 11 => .array .int
  | _ => .array .int
abbrev wsX90 : List Cond := u_ws RX9 TX9 13
theorem nmX9 : ∀ a, a < 13 → ∀ b, b < 13 → a ≠ b → (TX9 a).2.1 ≠ (TX9 b).2.1 := by decide +kernel
theorem tyX9_ok : ∀ k, k < 13 → parseFieldDescriptor (TX9 k).2.2.1 = some (tyX9 k) := by decide +kernel
abbrev cX9_init : ByteArray := prog_11_method_1_code
def yX9_init : MethodName := ⟨RX9, "<init>", "(LAttribArbor$Grammar;)V"⟩
abbrev cX9_putLetter : ByteArray := prog_11_method_2_code
def yX9_putLetter : MethodName := ⟨RX9, "putLetter", "(II)V"⟩
abbrev cX9_takeLetter : ByteArray := prog_11_method_3_code
def yX9_takeLetter : MethodName := ⟨RX9, "takeLetter", "(I)V"⟩
abbrev cX9_readInto : ByteArray := prog_11_method_4_code
def yX9_readInto : MethodName := ⟨RX9, "readInto", "(LAttribArbor$Tree;)V"⟩
abbrev cX9_measure : ByteArray := prog_11_method_5_code
def yX9_measure : MethodName := ⟨RX9, "measure", "()V"⟩
abbrev cX9_measureLetter : ByteArray := prog_11_method_6_code
def yX9_measureLetter : MethodName := ⟨RX9, "measureLetter", "(I)V"⟩
abbrev cX9_measureStretch : ByteArray := prog_11_method_7_code
def yX9_measureStretch : MethodName := ⟨RX9, "measureStretch", "(II)V"⟩
abbrev cX9_weigh : ByteArray := prog_11_method_8_code
def yX9_weigh : MethodName := ⟨RX9, "weigh", "(IIII)I"⟩
abbrev cX9_weightOf : ByteArray := prog_11_method_9_code
def yX9_weightOf : MethodName := ⟨RX9, "weightOf", "(III)I"⟩
abbrev cX9_placeOf : ByteArray := prog_11_method_10_code
def yX9_placeOf : MethodName := ⟨RX9, "placeOf", "(III)I"⟩
abbrev cX9_grow : ByteArray := prog_11_method_11_code
def yX9_grow : MethodName := ⟨RX9, "grow", "(LAttribArbor$Tree;)V"⟩
abbrev cX9_await : ByteArray := prog_11_method_12_code
def yX9_await : MethodName := ⟨RX9, "await", "(IIIII)V"⟩
abbrev cX9_productionFor : ByteArray := prog_11_method_13_code
def yX9_productionFor : MethodName := ⟨RX9, "productionFor", "(III)I"⟩
abbrev cX9_cutUp : ByteArray := prog_11_method_14_code
def yX9_cutUp : MethodName := ⟨RX9, "cutUp", "(III)V"⟩
abbrev cX9_putsOf : ByteArray := prog_11_method_15_code
def yX9_putsOf : MethodName := ⟨RX9, "putsOf", "(I)I"⟩
abbrev cX9_awaitChildren : ByteArray := prog_11_method_16_code
def yX9_awaitChildren : MethodName := ⟨RX9, "awaitChildren", "(II)V"⟩
def RX10 : String := "AttribArbor$Views"
def TX10 : u_T := fun k => match k with
  | 0 => ("AttribArbor$Views", "grammar", "LAttribArbor$Grammar;", true)
  | 1 => ("AttribArbor$Views", "productions", "[I", true)
  | _ => ("AttribArbor$Views", "standing", "[I", true)
def tyX10 : Nat → FieldType := fun k => match k with
  | 0 => .object "AttribArbor$Grammar"
  | 1 => .array .int
  | _ => .array .int
abbrev wsX100 : List Cond := u_ws RX10 TX10 3
theorem nmX10 : ∀ a, a < 3 → ∀ b, b < 3 → a ≠ b → (TX10 a).2.1 ≠ (TX10 b).2.1 := by decide +kernel
theorem tyX10_ok : ∀ k, k < 3 → parseFieldDescriptor (TX10 k).2.2.1 = some (tyX10 k) := by decide +kernel
abbrev cX10_init : ByteArray := prog_12_method_1_code
def yX10_init : MethodName := ⟨RX10, "<init>", "(LAttribArbor$Grammar;)V"⟩
abbrev cX10_arrange : ByteArray := prog_12_method_2_code
def yX10_arrange : MethodName := ⟨RX10, "arrange", "()V"⟩
abbrev cX10_arrangeOne : ByteArray := prog_12_method_3_code
def yX10_arrangeOne : MethodName := ⟨RX10, "arrangeOne", "(I)V"⟩
abbrev cX10_productionAt : ByteArray := prog_12_method_4_code
def yX10_productionAt : MethodName := ⟨RX10, "productionAt", "(II)I"⟩
abbrev cX10_childAt : ByteArray := prog_12_method_5_code
def yX10_childAt : MethodName := ⟨RX10, "childAt", "(III)I"⟩
abbrev cX10_targetAt : ByteArray := prog_12_method_6_code
def yX10_targetAt : MethodName := ⟨RX10, "targetAt", "(III)I"⟩
def RX11 : String := "AttribArbor"
def TX11 : u_T := fun k => match k with
  | 0 => ("AttribArbor", "grammar", "LAttribArbor$Grammar;", true)
  | 1 => ("AttribArbor", "draft", "LAttribArbor$Equation;", true)
  | 2 => ("AttribArbor", "equations", "LAttribArbor$Equations;", true)
  | 3 => ("AttribArbor", "reader", "LAttribArbor$TreeReader;", true)
  | 4 => ("AttribArbor", "tree", "LAttribArbor$Tree;", true)
  | 5 => ("AttribArbor", "fresh", "LAttribArbor$Tree;", true)
  | 6 => ("AttribArbor", "kept", "LAttribArbor$Findings;", true)
  | 7 => ("AttribArbor", "scratch", "LAttribArbor$Findings;", true)
  | 8 => ("AttribArbor", "finder", "LAttribArbor$Finder;", true)
  | 9 => ("AttribArbor", "rings", "LAttribArbor$Rings;", true)
  | _ => ("AttribArbor", "graph", "LAttribArbor$HangGraph;", true)
def tyX11 : Nat → FieldType := fun k => match k with
  | 0 => .object "AttribArbor$Grammar"
  | 1 => .object "AttribArbor$Equation"
  | 2 => .object "AttribArbor$Equations"
  | 3 => .object "AttribArbor$TreeReader"
  | 4 => .object "AttribArbor$Tree"
  | 5 => .object "AttribArbor$Tree"
  | 6 => .object "AttribArbor$Findings"
  | 7 => .object "AttribArbor$Findings"
  | 8 => .object "AttribArbor$Finder"
  | 9 => .object "AttribArbor$Rings"
  | _ => .object "AttribArbor$HangGraph"
abbrev wsX110 : List Cond := u_ws RX11 TX11 11
theorem nmX11 : ∀ a, a < 11 → ∀ b, b < 11 → a ≠ b → (TX11 a).2.1 ≠ (TX11 b).2.1 := by decide +kernel
theorem tyX11_ok : ∀ k, k < 11 → parseFieldDescriptor (TX11 k).2.2.1 = some (tyX11 k) := by decide +kernel
abbrev cX11_init : ByteArray := prog_1_method_1_code
def yX11_init : MethodName := ⟨RX11, "<init>", "()V"⟩
abbrev cX11_production : ByteArray := prog_1_method_2_code
def yX11_production : MethodName := ⟨RX11, "production", "(IIII)I"⟩
abbrev cX11_forward : ByteArray := prog_1_method_3_code
def yX11_forward : MethodName := ⟨RX11, "forward", "(IIIII)I"⟩
abbrev cX11_rule : ByteArray := prog_1_method_4_code
def yX11_rule : MethodName := ⟨RX11, "rule", "(III)I"⟩
abbrev cX11_attribute : ByteArray := prog_1_method_5_code
def yX11_attribute : MethodName := ⟨RX11, "attribute", "(I)I"⟩
abbrev cX11_step : ByteArray := prog_1_method_6_code
def yX11_step : MethodName := ⟨RX11, "step", "(III)I"⟩
abbrev cX11_dropSteps : ByteArray := prog_1_method_7_code
def yX11_dropSteps : MethodName := ⟨RX11, "dropSteps", "()I"⟩
abbrev cX11_equation : ByteArray := prog_1_method_8_code
def yX11_equation : MethodName := ⟨RX11, "equation", "(IIII)I"⟩
abbrev cX11_toggle : ByteArray := prog_1_method_9_code
def yX11_toggle : MethodName := ⟨RX11, "toggle", "(I)Z"⟩
abbrev cX11_conflicts : ByteArray := prog_1_method_10_code
def yX11_conflicts : MethodName := ⟨RX11, "conflicts", "()I"⟩
abbrev cX11_ringIn : ByteArray := prog_1_method_11_code
def yX11_ringIn : MethodName := ⟨RX11, "ringIn", "()I"⟩
abbrev cX11_insert : ByteArray := prog_1_method_12_code
def yX11_insert : MethodName := ⟨RX11, "insert", "(II)I"⟩
abbrev cX11_delete : ByteArray := prog_1_method_13_code
def yX11_delete : MethodName := ⟨RX11, "delete", "(I)I"⟩
abbrev cX11_read : ByteArray := prog_1_method_14_code
def yX11_read : MethodName := ⟨RX11, "read", "()I"⟩
abbrev cX11_cost : ByteArray := prog_1_method_15_code
def yX11_cost : MethodName := ⟨RX11, "cost", "()I"⟩
abbrev cX11_node : ByteArray := prog_1_method_16_code
def yX11_node : MethodName := ⟨RX11, "node", "(I)I"⟩
abbrev cX11_rewrite : ByteArray := prog_1_method_17_code
def yX11_rewrite : MethodName := ⟨RX11, "rewrite", "(I)I"⟩
abbrev cX11_value : ByteArray := prog_1_method_18_code
def yX11_value : MethodName := ⟨RX11, "value", "(II)I"⟩
abbrev cX11_valueAnew : ByteArray := prog_1_method_19_code
def yX11_valueAnew : MethodName := ⟨RX11, "valueAnew", "(II)I"⟩
abbrev cX11_found : ByteArray := prog_1_method_20_code
def yX11_found : MethodName := ⟨RX11, "found", "()I"⟩
abbrev cX11_isKept : ByteArray := prog_1_method_21_code
def yX11_isKept : MethodName := ⟨RX11, "isKept", "(II)Z"⟩
abbrev cX11_why : ByteArray := prog_1_method_22_code
def yX11_why : MethodName := ⟨RX11, "why", "(III)I"⟩
abbrev cX11_mustBeAttribute : ByteArray := prog_1_method_23_code
def yX11_mustBeAttribute : MethodName := ⟨RX11, "mustBeAttribute", "(I)V"⟩
abbrev cX11_mustBeAspect : ByteArray := prog_1_method_24_code
def yX11_mustBeAspect : MethodName := ⟨RX11, "mustBeAspect", "(I)V"⟩
abbrev cX11_mustBeNode : ByteArray := prog_1_method_25_code
def yX11_mustBeNode : MethodName := ⟨RX11, "mustBeNode", "(I)V"⟩
abbrev cX11_followGrammar : ByteArray := prog_1_method_26_code
def yX11_followGrammar : MethodName := ⟨RX11, "followGrammar", "()V"⟩
abbrev cX11_foundWith : ByteArray := prog_1_method_27_code
def yX11_foundWith : MethodName := ⟨RX11, "foundWith", "(IILAttribArbor$Findings;)I"⟩
abbrev cX11_readAgain : ByteArray := prog_1_method_28_code
def yX11_readAgain : MethodName := ⟨RX11, "readAgain", "()I"⟩
abbrev cX11_standsByChild : ByteArray := prog_1_method_29_code
def yX11_standsByChild : MethodName := ⟨RX11, "standsByChild", "(IIII)Z"⟩
abbrev cX11_standsRightly : ByteArray := prog_1_method_30_code
def yX11_standsRightly : MethodName := ⟨RX11, "standsRightly", "(IIII)Z"⟩
abbrev cX11_followsAsSymbol : ByteArray := prog_1_method_31_code
def yX11_followsAsSymbol : MethodName := ⟨RX11, "followsAsSymbol", "(IZ)Z"⟩
abbrev cX11_tellsAttribute : ByteArray := prog_1_method_32_code
def yX11_tellsAttribute : MethodName := ⟨RX11, "tellsAttribute", "(I)Z"⟩
abbrev cX11_isRightNumber : ByteArray := prog_1_method_33_code
def yX11_isRightNumber : MethodName := ⟨RX11, "isRightNumber", "(II)Z"⟩
abbrev cX11_isRightChild : ByteArray := prog_1_method_34_code
def yX11_isRightChild : MethodName := ⟨RX11, "isRightChild", "(II)Z"⟩
abbrev cX11_goesWithKind : ByteArray := prog_1_method_35_code
def yX11_goesWithKind : MethodName := ⟨RX11, "goesWithKind", "(II)Z"⟩
abbrev cX11_operandsOf : ByteArray := prog_1_method_36_code
def yX11_operandsOf : MethodName := ⟨RX11, "operandsOf", "(I)I"⟩
abbrev cX11_slotOf : ByteArray := prog_1_method_37_code
def yX11_slotOf : MethodName := ⟨RX11, "slotOf", "(II)I"⟩
abbrev cX11_bitOf : ByteArray := prog_1_method_38_code
def yX11_bitOf : MethodName := ⟨RX11, "bitOf", "(I)I"⟩
abbrev cX11_entryOf : ByteArray := prog_1_method_39_code
def yX11_entryOf : MethodName := ⟨RX11, "entryOf", "([II)I"⟩
abbrev cX11_setEntry : ByteArray := prog_1_method_40_code
def yX11_setEntry : MethodName := ⟨RX11, "setEntry", "([III)V"⟩
abbrev cX11_fillRow : ByteArray := prog_1_method_41_code
def yX11_fillRow : MethodName := ⟨RX11, "fillRow", "([II)V"⟩
abbrev cX11_copyRow : ByteArray := prog_1_method_42_code
def yX11_copyRow : MethodName := ⟨RX11, "copyRow", "([I[I)V"⟩
def RX12 : String := "AttribArborModel"
def TX12 : u_T := fun k => match k with
  | _ => ("", "", "", false)
def tyX12 : Nat → FieldType := fun k => match k with
  | _ => .int
abbrev wsX120 : List Cond := u_ws RX12 TX12 0
theorem nmX12 : ∀ a, a < 0 → ∀ b, b < 0 → a ≠ b → (TX12 a).2.1 ≠ (TX12 b).2.1 := by decide +kernel
theorem tyX12_ok : ∀ k, k < 0 → parseFieldDescriptor (TX12 k).2.2.1 = some (tyX12 k) := by decide +kernel
def RJ0 : String := "java/lang/String"
def TJ0 : u_T := fun k => match k with
  | _ => ("", "", "", false)
def tyJ0 : Nat → FieldType := fun k => match k with
  | _ => .int
abbrev wsJ00 : List Cond := u_ws RJ0 TJ0 0
theorem nmJ0 : ∀ a, a < 0 → ∀ b, b < 0 → a ≠ b → (TJ0 a).2.1 ≠ (TJ0 b).2.1 := by decide +kernel
theorem tyJ0_ok : ∀ k, k < 0 → parseFieldDescriptor (TJ0 k).2.2.1 = some (tyJ0 k) := by decide +kernel
def RL : String := "AttribArborLaw"
abbrev cL_part : ByteArray := method_2_code
def yL_part : MethodName := ⟨RL, "part", "([III)I"⟩
abbrev cL_does : ByteArray := method_3_code
def yL_does : MethodName := ⟨RL, "does", "(LAttribArbor;IIIIII)I"⟩
abbrev cL_symbol : ByteArray := method_4_code
def yL_symbol : MethodName := ⟨RL, "symbol", "([III)I"⟩
abbrev cL_children : ByteArray := method_5_code
def yL_children : MethodName := ⟨RL, "children", "([II)I"⟩
abbrev cL_childOf : ByteArray := method_6_code
def yL_childOf : MethodName := ⟨RL, "childOf", "([III)I"⟩
abbrev cL_isTree : ByteArray := method_7_code
def yL_isTree : MethodName := ⟨RL, "isTree", "(LAttribArbor;[I[I[I)Z"⟩
abbrev cL_isTold : ByteArray := method_8_code
def yL_isTold : MethodName := ⟨RL, "isTold", "(LAttribArbor;[I[III)Z"⟩
abbrev cL_areReads : ByteArray := method_9_code
def yL_areReads : MethodName := ⟨RL, "areReads", "(LAttribArbor;[I[III)Z"⟩
abbrev cL_conflicts : ByteArray := method_10_code
def yL_conflicts : MethodName := ⟨RL, "conflicts", "([I[I)I"⟩
abbrev cL_isProduction : ByteArray := method_11_code
def yL_isProduction : MethodName := ⟨RL, "isProduction", "(LAttribArbor;[I[III)Z"⟩
abbrev cL_isEquation : ByteArray := method_12_code
def yL_isEquation : MethodName := ⟨RL, "isEquation", "(LAttribArbor;[I[I[I[I[II)Z"⟩
abbrev cL_isRead : ByteArray := method_13_code
def yL_isRead : MethodName := ⟨RL, "isRead", "(LAttribArbor;[IIZ)Z"⟩
abbrev cL_isChanged : ByteArray := method_14_code
def yL_isChanged : MethodName := ⟨RL, "isChanged", "(LAttribArbor;[IIII)Z"⟩
abbrev cL_isRewritten : ByteArray := method_15_code
def yL_isRewritten : MethodName := ⟨RL, "isRewritten", "(LAttribArbor;[I[II)Z"⟩
abbrev cL_isLaw : ByteArray := method_16_code
def yL_isLaw : MethodName := ⟨RL, "isLaw", "(LAttribArbor;[II[I[I[I[I[I)Z"⟩
abbrev cL_law : ByteArray := code
def yL_law : MethodName := ⟨RL, "law", "([I)Z"⟩
def LW_0 : List Cond := [.code yX0_init cX0_init 1 none, .methodLink RX0 3 objectInit, .instanceMethod objectInit, .code objectInit ⟨#[0xb1]⟩ 1 none, .arrayClass .int, .fieldLink RX0 9 "AttribArbor$Equation" "kinds" "[I", .fieldLink RX0 15 "AttribArbor$Equation" "numbers" "[I", .fieldLink RX0 18 "AttribArbor$Equation" "children" "[I", .fieldLink RX0 21 "AttribArbor$Equation" "users" "[I", .fieldLink RX0 24 "AttribArbor$Equation" "roles" "[I", .fieldLink RX0 27 "AttribArbor$Equation" "starts" "[I", .fieldLink RX0 30 "AttribArbor$Equation" "stack" "[I", .code yX11_operandsOf cX11_operandsOf 1 (some .int), .code yX11_entryOf cX11_entryOf 2 (some .int), .code yX11_setEntry cX11_setEntry 3 none, .code yX0_append cX0_append 8 none, .fieldLink RX0 37 "AttribArbor$Equation" "size" "I", .fieldLink RX0 41 "AttribArbor$Equation" "standing" "I", .static yX11_operandsOf, .initialized RX11, .static yX11_entryOf, .static yX11_setEntry, .code yX0_clear cX0_clear 1 none, .code yX0_place cX0_place 5 none, .fieldLink RX0 52 "AttribArbor$Equation" "production" "I", .fieldLink RX0 55 "AttribArbor$Equation" "attribute" "I", .fieldLink RX0 58 "AttribArbor$Equation" "target" "I", .fieldLink RX0 61 "AttribArbor$Equation" "aspect" "I", .code yX11_copyRow cX11_copyRow 3 none, .code yX0_take cX0_take 2 none, .methodLink RX0 64 yX0_place, .instanceMethod yX0_place, .selects RX0 yX0_place yX0_place, .initialized RX0, .static yX11_copyRow, .code yX0_isFor cX0_isFor 4 (some .boolean), .code yX0_kindOf cX0_kindOf 2 (some .int), .code yX0_numberOf cX0_numberOf 2 (some .int), .code yX0_childOf cX0_childOf 2 (some .int), .code yX0_userOf cX0_userOf 2 (some .int), .code yX0_roleOf cX0_roleOf 2 (some .int), .code yX0_startOf cX0_startOf 2 (some .int), .methodLink RX1 5 objectInit, .classLink RX1 11 RX0, .fieldLink RX1 13 "AttribArbor$Equations" "rows" "[LAttribArbor$Equation;", .arrayClass .boolean, .fieldLink RX1 17 "AttribArbor$Equations" "off" "[Z", .fieldLink RX1 21 "AttribArbor$Equations" "singles" "[I", .fieldLink RX1 25 "AttribArbor$Equations" "resolved" "[I", .fieldLink RX1 28 "AttribArbor$Equations" "hops" "[I", .fieldLink RX1 31 "AttribArbor$Equations" "firstGifts" "[I", .fieldLink RX1 34 "AttribArbor$Equations" "nextGifts" "[I", .fieldLink RX1 37 "AttribArbor$Equations" "grammar" "LAttribArbor$Grammar;", .fieldLink RX1 41 "AttribArbor$Equations" "views" "LAttribArbor$Views;", .instantiable RX0 13, .instanceMethod yX0_init, .code yX1_init cX1_init 4 none, .fieldLink RX1 46 "AttribArbor$Equations" "count" "I", .methodLink RX1 50 yX0_take, .instanceMethod yX0_take, .selects RX0 yX0_take yX0_take, .code yX1_append cX1_append 4 (some .int), .code yX1_turnAspect cX1_turnAspect 2 (some .boolean), .code yX1_rowOf cX1_rowOf 2 (some (.object "AttribArbor$Equation")), .code yX1_counts cX1_counts 3 (some .boolean), .fieldLink RX1 54 "AttribArbor$Equation" "aspect" "I", .code yX11_fillRow cX11_fillRow 3 none, .code yX5_childCountOf cX5_childCountOf 2 (some .int), .fieldLink RX5 21 "AttribArbor$Grammar" "childCounts" "[I", .code yX5_standInOf cX5_standInOf 4 (some .int), .fieldLink RX5 36 "AttribArbor$Grammar" "standIns" "[I", .code yX10_childAt cX10_childAt 6 (some .int), .fieldLink RX10 15 "AttribArbor$Views" "standing" "[I", .code yX5_forwardOf cX5_forwardOf 2 (some .int), .fieldLink RX5 33 "AttribArbor$Grammar" "forwards" "[I", .fieldLink RX10 11 "AttribArbor$Views" "productions" "[I", .fieldLink RX10 18 "AttribArbor$Views" "grammar" "LAttribArbor$Grammar;", .methodLink RX10 39 yX5_childCountOf, .instanceMethod yX5_childCountOf, .selects RX5 yX5_childCountOf yX5_childCountOf, .initialized RX5, .methodLink RX10 43 yX5_standInOf, .instanceMethod yX5_standInOf, .selects RX5 yX5_standInOf yX5_standInOf, .methodLink RX10 47 yX10_childAt, .instanceMethod yX10_childAt, .selects RX10 yX10_childAt yX10_childAt, .initialized RX10, .methodLink RX10 51 yX5_forwardOf, .instanceMethod yX5_forwardOf, .selects RX5 yX5_forwardOf yX5_forwardOf, .code yX10_arrangeOne cX10_arrangeOne 9 none, .fieldLink RX10 26 "AttribArbor$Grammar" "productions" "I", .static yX11_fillRow, .methodLink RX10 31 yX10_arrangeOne, .instanceMethod yX10_arrangeOne, .selects RX10 yX10_arrangeOne yX10_arrangeOne, .code yX10_arrange cX10_arrange 2 none, .code yX1_placeOf cX1_placeOf 3 (some .int), .code yX1_arrangeOne cX1_arrangeOne 5 none]
def LW_1 : List Cond := [.fieldLink RX1 90 "AttribArbor$Equation" "production" "I", .fieldLink RX1 93 "AttribArbor$Equation" "attribute" "I", .fieldLink RX1 96 "AttribArbor$Equation" "target" "I", .methodLink RX1 107 yX1_placeOf, .static yX1_placeOf, .initialized RX1, .code yX10_productionAt cX10_productionAt 5 (some .int), .code yX10_targetAt cX10_targetAt 5 (some .int), .methodLink RX1 111 yX10_productionAt, .instanceMethod yX10_productionAt, .selects RX10 yX10_productionAt yX10_productionAt, .methodLink RX1 115 yX10_targetAt, .instanceMethod yX10_targetAt, .selects RX10 yX10_targetAt yX10_targetAt, .code yX1_resolve cX1_resolve 9 none, .fieldLink RX1 78 "AttribArbor$Grammar" "productions" "I", .fieldLink RX1 83 "AttribArbor$Grammar" "attributes" "I", .methodLink RX1 57 yX10_arrange, .instanceMethod yX10_arrange, .selects RX10 yX10_arrange yX10_arrange, .methodLink RX1 66 yX1_rowOf, .instanceMethod yX1_rowOf, .selects RX1 yX1_rowOf yX1_rowOf, .methodLink RX1 70 yX1_counts, .instanceMethod yX1_counts, .selects RX1 yX1_counts yX1_counts, .methodLink RX1 74 yX1_arrangeOne, .instanceMethod yX1_arrangeOne, .selects RX1 yX1_arrangeOne yX1_arrangeOne, .methodLink RX1 86 yX1_resolve, .instanceMethod yX1_resolve, .selects RX1 yX1_resolve yX1_resolve, .code yX1_arrange cX1_arrange 4 none, .code yX1_resolvedFor cX1_resolvedFor 4 (some .int), .code yX1_hopsFor cX1_hopsFor 4 (some .int), .code yX1_firstGiftOf cX1_firstGiftOf 4 (some .int), .code yX1_nextGiftOf cX1_nextGiftOf 2 (some .int), .code yX1_isInConflict cX1_isInConflict 3 (some .boolean), .methodLink RX1 118 yX1_isInConflict, .instanceMethod yX1_isInConflict, .selects RX1 yX1_isInConflict yX1_isInConflict, .code yX1_countConflicts cX1_countConflicts 4 (some .int), .code yX4_init cX4_init 1 none, .methodLink RX4 3 objectInit, .fieldLink RX4 9 "AttribArbor$Frame" "held" "[I", .code yX2_init cX2_init 7 none, .methodLink RX2 3 objectInit, .fieldLink RX2 9 "AttribArbor$Finder" "list" "[I", .classLink RX2 15 RX4, .fieldLink RX2 17 "AttribArbor$Finder" "frames" "[LAttribArbor$Frame;", .fieldLink RX2 21 "AttribArbor$Finder" "open" "[Z", .fieldLink RX2 25 "AttribArbor$Finder" "grammar" "LAttribArbor$Grammar;", .fieldLink RX2 29 "AttribArbor$Finder" "equations" "LAttribArbor$Equations;", .fieldLink RX2 33 "AttribArbor$Finder" "views" "LAttribArbor$Views;", .fieldLink RX2 37 "AttribArbor$Finder" "tree" "LAttribArbor$Tree;", .fieldLink RX2 41 "AttribArbor$Finder" "ringValues" "[I", .instantiable RX4 14, .initialized RX4, .instanceMethod yX4_init, .code yX11_slotOf cX11_slotOf 2 (some .int), .code yX3_has cX3_has 2 (some .boolean), .fieldLink RX3 15 "AttribArbor$Findings" "hangs" "[I", .code yX3_valueOf cX3_valueOf 2 (some .int), .fieldLink RX3 9 "AttribArbor$Findings" "values" "[I", .code yX2_topFrame cX2_topFrame 2 (some (.object "AttribArbor$Frame")), .fieldLink RX2 75 "AttribArbor$Finder" "depth" "I", .code yX2_setOpen cX2_setOpen 3 none, .code yX11_bitOf cX11_bitOf 1 (some .int), .code yX5_kindOf cX5_kindOf 2 (some .int), .fieldLink RX5 68 "AttribArbor$Grammar" "attributes" "I", .fieldLink RX5 45 "AttribArbor$Grammar" "kinds" "[I", .code yX8_nowOf cX8_nowOf 2 (some .int), .fieldLink RX8 21 "AttribArbor$Tree" "now" "[I", .code yX4_settle cX4_settle 2 none, .fieldLink RX4 15 "AttribArbor$Frame" "answer" "I", .fieldLink RX4 19 "AttribArbor$Frame" "settled" "Z", .fieldLink RX2 130 "AttribArbor$Frame" "at" "I", .fieldLink RX2 177 "AttribArbor$Tree" "count" "I", .fieldLink RX2 152 "AttribArbor$Frame" "production" "I", .fieldLink RX2 164 "AttribArbor$Frame" "hops" "I", .fieldLink RX2 108 "AttribArbor$Frame" "attribute" "I", .fieldLink RX2 183 "AttribArbor$Frame" "gift" "I", .fieldLink RX2 186 "AttribArbor$Frame" "inSecond" "Z", .fieldLink RX2 171 "AttribArbor$Frame" "next" "I", .fieldLink RX2 117 "AttribArbor$Frame" "equation" "LAttribArbor$Equation;", .fieldLink RX2 127 "AttribArbor$Frame" "sum" "I", .methodLink RX2 149 yX8_nowOf, .instanceMethod yX8_nowOf, .selects RX8 yX8_nowOf yX8_nowOf, .initialized RX8, .methodLink RX2 180 yX1_firstGiftOf, .instanceMethod yX1_firstGiftOf, .selects RX1 yX1_firstGiftOf yX1_firstGiftOf, .methodLink RX2 167 yX1_rowOf, .methodLink RX2 174 yX4_settle, .instanceMethod yX4_settle, .selects RX4 yX4_settle yX4_settle, .code yX2_beginGift cX2_beginGift 5 none, .code yX8_parentOf cX8_parentOf 2 (some .int), .fieldLink RX8 9 "AttribArbor$Tree" "parents" "[I"]
def LW_2 : List Cond := [.code yX8_placeOf cX8_placeOf 2 (some .int), .fieldLink RX8 15 "AttribArbor$Tree" "places" "[I", .methodLink RX2 155 yX1_resolvedFor, .instanceMethod yX1_resolvedFor, .selects RX1 yX1_resolvedFor yX1_resolvedFor, .methodLink RX2 161 yX1_hopsFor, .instanceMethod yX1_hopsFor, .selects RX1 yX1_hopsFor yX1_hopsFor, .code yX2_beginEquation cX2_beginEquation 6 none, .fieldLink RX2 105 "AttribArbor$Frame" "node" "I", .fieldLink RX2 114 "AttribArbor$Frame" "hangs" "I", .fieldLink RX2 87 "AttribArbor$Frame" "settled" "Z", .constant RX2 126 (1073741824), .methodLink RX2 83 yX2_topFrame, .instanceMethod yX2_topFrame, .selects RX2 yX2_topFrame yX2_topFrame, .initialized RX2, .methodLink RX2 101 yX2_setOpen, .instanceMethod yX2_setOpen, .selects RX2 yX2_setOpen yX2_setOpen, .static yX11_bitOf, .methodLink RX2 121 yX5_kindOf, .instanceMethod yX5_kindOf, .selects RX5 yX5_kindOf yX5_kindOf, .methodLink RX2 133 yX2_beginGift, .instanceMethod yX2_beginGift, .selects RX2 yX2_beginGift yX2_beginGift, .methodLink RX2 137 yX8_parentOf, .instanceMethod yX8_parentOf, .selects RX8 yX8_parentOf yX8_parentOf, .methodLink RX2 142 yX8_placeOf, .instanceMethod yX8_placeOf, .selects RX8 yX8_placeOf yX8_placeOf, .methodLink RX2 145 yX2_beginEquation, .instanceMethod yX2_beginEquation, .selects RX2 yX2_beginEquation yX2_beginEquation, .code yX2_begin cX2_begin 4 none, .code yX3_keep cX3_keep 4 none, .fieldLink RX3 28 "AttribArbor$Findings" "made" "I", .fieldLink RX2 189 "AttribArbor$Frame" "answer" "I", .fieldLink RX2 61 "AttribArbor$Finder" "book" "LAttribArbor$Findings;", .static yX11_slotOf, .methodLink RX2 192 yX3_keep, .instanceMethod yX3_keep, .selects RX3 yX3_keep yX3_keep, .initialized RX3, .code yX2_close cX2_close 4 none, .code yX2_enlist cX2_enlist 3 none, .fieldLink RX2 45 "AttribArbor$Finder" "listed" "I", .code yX3_hangsOf cX3_hangsOf 2 (some .int), .code yX2_isOpen cX2_isOpen 2 (some .boolean), .fieldLink RX2 49 "AttribArbor$Finder" "listing" "Z", .fieldLink RX2 98 "AttribArbor$Finder" "wanted" "I", .methodLink RX2 249 yX2_enlist, .instanceMethod yX2_enlist, .selects RX2 yX2_enlist yX2_enlist, .methodLink RX2 65 yX3_has, .instanceMethod yX3_has, .selects RX3 yX3_has yX3_has, .methodLink RX2 256 yX3_hangsOf, .instanceMethod yX3_hangsOf, .selects RX3 yX3_hangsOf yX3_hangsOf, .methodLink RX2 71 yX3_valueOf, .instanceMethod yX3_valueOf, .selects RX3 yX3_valueOf yX3_valueOf, .methodLink RX2 259 yX2_isOpen, .instanceMethod yX2_isOpen, .selects RX2 yX2_isOpen yX2_isOpen, .code yX2_lookAt cX2_lookAt 5 (some .int), .code yX8_childOf cX8_childOf 4 (some .int), .fieldLink RX8 33 "AttribArbor$Tree" "count" "I", .fieldLink RX8 24 "AttribArbor$Tree" "children" "[I", .code yX2_childFor cX2_childFor 3 (some .int), .methodLink RX2 236 yX10_childAt, .methodLink RX2 241 yX8_childOf, .instanceMethod yX8_childOf, .selects RX8 yX8_childOf yX8_childOf, .code yX8_readAsOf cX8_readAsOf 2 (some .int), .fieldLink RX8 18 "AttribArbor$Tree" "readAs" "[I", .code yX5_letterOf cX5_letterOf 4 (some .int), .fieldLink RX5 27 "AttribArbor$Grammar" "letterCounts" "[I", .fieldLink RX5 30 "AttribArbor$Grammar" "letters" "[I", .code yX2_letterFor cX2_letterFor 3 (some .int), .methodLink RX2 243 yX8_readAsOf, .instanceMethod yX8_readAsOf, .selects RX8 yX8_readAsOf yX8_readAsOf, .methodLink RX2 246 yX5_letterOf, .instanceMethod yX5_letterOf, .selects RX5 yX5_letterOf yX5_letterOf, .code yX8_putOf cX8_putOf 4 (some .int), .fieldLink RX8 27 "AttribArbor$Tree" "puts" "[I", .code yX4_heldFor cX4_heldFor 2 (some .int), .methodLink RX2 214 yX0_numberOf, .instanceMethod yX0_numberOf, .selects RX0 yX0_numberOf yX0_numberOf, .methodLink RX2 219 yX0_kindOf, .instanceMethod yX0_kindOf, .selects RX0 yX0_kindOf yX0_kindOf, .methodLink RX2 196 yX2_lookAt, .instanceMethod yX2_lookAt]
def LW_3 : List Cond := [.selects RX2 yX2_lookAt yX2_lookAt, .methodLink RX2 220 yX0_childOf, .instanceMethod yX0_childOf, .selects RX0 yX0_childOf yX0_childOf, .methodLink RX2 223 yX2_childFor, .instanceMethod yX2_childFor, .selects RX2 yX2_childFor yX2_childFor, .methodLink RX2 227 yX2_letterFor, .instanceMethod yX2_letterFor, .selects RX2 yX2_letterFor yX2_letterFor, .methodLink RX2 230 yX8_putOf, .instanceMethod yX8_putOf, .selects RX8 yX8_putOf yX8_putOf, .methodLink RX2 233 yX4_heldFor, .instanceMethod yX4_heldFor, .selects RX4 yX4_heldFor yX4_heldFor, .code yX2_lookAtStep cX2_lookAtStep 6 (some .int), .code yX4_joined cX4_joined 3 (some .int), .fieldLink RX4 29 "AttribArbor$Frame" "next" "I", .methodLink RX4 36 yX0_kindOf, .methodLink RX4 39 yX0_roleOf, .instanceMethod yX0_roleOf, .selects RX0 yX0_roleOf yX0_roleOf, .methodLink RX4 42 yX0_startOf, .instanceMethod yX0_startOf, .selects RX0 yX0_startOf yX0_startOf, .methodLink RX4 49 yX4_heldFor, .methodLink RX4 52 yX4_joined, .static yX4_joined, .code yX4_takeUp cX4_takeUp 6 (some .int), .methodLink RX4 23 yX0_userOf, .instanceMethod yX0_userOf, .selects RX0 yX0_userOf yX0_userOf, .methodLink RX4 32 yX4_takeUp, .instanceMethod yX4_takeUp, .selects RX4 yX4_takeUp yX4_takeUp, .code yX4_climb cX4_climb 8 (some .int), .methodLink RX2 211 yX1_nextGiftOf, .instanceMethod yX1_nextGiftOf, .selects RX1 yX1_nextGiftOf yX1_nextGiftOf, .code yX2_takeWhole cX2_takeWhole 3 none, .methodLink RX2 200 yX2_lookAtStep, .instanceMethod yX2_lookAtStep, .selects RX2 yX2_lookAtStep yX2_lookAtStep, .methodLink RX2 204 yX4_climb, .instanceMethod yX4_climb, .selects RX4 yX4_climb yX4_climb, .methodLink RX2 208 yX2_takeWhole, .instanceMethod yX2_takeWhole, .selects RX2 yX2_takeWhole yX2_takeWhole, .code yX2_goOn cX2_goOn 6 (some .boolean), .constant RX2 82 (10000000), .methodLink RX2 78 yX2_begin, .instanceMethod yX2_begin, .selects RX2 yX2_begin yX2_begin, .methodLink RX2 90 yX2_close, .instanceMethod yX2_close, .selects RX2 yX2_close yX2_close, .methodLink RX2 94 yX2_goOn, .instanceMethod yX2_goOn, .selects RX2 yX2_goOn yX2_goOn, .code yX2_find cX2_find 7 (some .int), .methodLink RX2 53 yX2_find, .instanceMethod yX2_find, .selects RX2 yX2_find yX2_find, .code yX2_findListing cX2_findListing 4 none, .code yX3_init cX3_init 1 none, .methodLink RX3 3 objectInit, .fieldLink RX3 18 "AttribArbor$Findings" "nextValues" "[I", .fieldLink RX3 21 "AttribArbor$Findings" "nextHangs" "[I", .code yX3_clear cX3_clear 1 none, .code yX3_drop cX3_drop 3 none, .code yX8_hasNode cX8_hasNode 2 (some .boolean), .code yX8_heirOf cX8_heirOf 2 (some .int), .fieldLink RX8 30 "AttribArbor$Tree" "heirs" "[I", .methodLink RX8 44 yX8_hasNode, .instanceMethod yX8_hasNode, .selects RX8 yX8_hasNode yX8_hasNode, .code yX3_valueInHeirs cX3_valueInHeirs 2 (some .int), .methodLink RX3 40 yX8_heirOf, .instanceMethod yX8_heirOf, .selects RX8 yX8_heirOf yX8_heirOf, .code yX3_bitsInHeirs cX3_bitsInHeirs 4 (some .int), .methodLink RX3 46 yX3_has, .methodLink RX3 54 yX3_valueOf, .methodLink RX3 57 yX3_valueInHeirs, .static yX3_valueInHeirs, .methodLink RX3 61 yX3_hangsOf, .methodLink RX3 64 yX3_bitsInHeirs, .static yX3_bitsInHeirs, .code yX3_follow cX3_follow 5 none, .code yX5_init cX5_init 1 none, .methodLink RX5 3 objectInit, .fieldLink RX5 9 "AttribArbor$Grammar" "heads" "[I", .fieldLink RX5 15 "AttribArbor$Grammar" "lengths" "[I", .fieldLink RX5 18 "AttribArbor$Grammar" "symbols" "[I", .fieldLink RX5 24 "AttribArbor$Grammar" "childHeads" "[I", .fieldLink RX5 39 "AttribArbor$Grammar" "ruleAttributes" "[I", .fieldLink RX5 42 "AttribArbor$Grammar" "ruleOthers" "[I", .code yX5_appendTo cX5_appendTo 5 none]
def LW_4 : List Cond := [.code yX5_appendSymbol cX5_appendSymbol 3 none, .methodLink RX5 60 yX5_appendTo, .static yX5_appendTo, .code yX5_addProduction cX5_addProduction 6 (some .int), .fieldLink RX5 48 "AttribArbor$Grammar" "productions" "I", .methodLink RX5 56 yX5_appendSymbol, .instanceMethod yX5_appendSymbol, .selects RX5 yX5_appendSymbol yX5_appendSymbol, .code yX5_addAttribute cX5_addAttribute 3 (some .int), .code yX5_tellForward cX5_tellForward 7 (some .int), .methodLink RX5 71 yX5_forwardOf, .code yX5_ruleOtherOf cX5_ruleOtherOf 2 (some .int), .code yX5_tellRule cX5_tellRule 5 (some .int), .methodLink RX5 75 yX5_ruleOtherOf, .instanceMethod yX5_ruleOtherOf, .selects RX5 yX5_ruleOtherOf yX5_ruleOtherOf, .code yX5_hasProduction cX5_hasProduction 2 (some .boolean), .code yX5_hasAttribute cX5_hasAttribute 2 (some .boolean), .code yX5_headOf cX5_headOf 2 (some .int), .code yX5_lengthOf cX5_lengthOf 2 (some .int), .code yX5_symbolOf cX5_symbolOf 4 (some .int), .code yX5_childHeadOf cX5_childHeadOf 4 (some .int), .methodLink RX5 78 yX5_childCountOf, .code yX5_ruleAttributeOf cX5_ruleAttributeOf 2 (some .int), .code yX5_isAlikeInShape cX5_isAlikeInShape 5 (some .boolean), .methodLink RX5 81 yX5_headOf, .instanceMethod yX5_headOf, .selects RX5 yX5_headOf yX5_headOf, .methodLink RX5 84 yX5_childHeadOf, .instanceMethod yX5_childHeadOf, .selects RX5 yX5_childHeadOf yX5_childHeadOf, .code yX6_init cX6_init 4 none, .methodLink RX6 3 objectInit, .fieldLink RX6 11 "AttribArbor$HangGraph" "hangs" "[I", .fieldLink RX6 15 "AttribArbor$HangGraph" "relations" "[I", .fieldLink RX6 18 "AttribArbor$HangGraph" "grammar" "LAttribArbor$Grammar;", .fieldLink RX6 22 "AttribArbor$HangGraph" "equations" "LAttribArbor$Equations;", .fieldLink RX6 26 "AttribArbor$HangGraph" "views" "LAttribArbor$Views;", .code yX6_isOfKind cX6_isOfKind 3 (some .boolean), .methodLink RX6 60 yX5_kindOf, .code yX6_cornerOf cX6_cornerOf 2 (some .int), .code yX6_hang cX6_hang 3 none, .fieldLink RX6 130 "AttribArbor$Equation" "size" "I", .methodLink RX6 133 yX0_kindOf, .methodLink RX6 134 yX0_numberOf, .methodLink RX6 137 yX0_childOf, .methodLink RX6 140 yX10_childAt, .methodLink RX6 64 yX6_isOfKind, .instanceMethod yX6_isOfKind, .selects RX6 yX6_isOfKind yX6_isOfKind, .initialized RX6, .methodLink RX6 82 yX6_cornerOf, .static yX6_cornerOf, .methodLink RX6 86 yX6_hang, .instanceMethod yX6_hang, .selects RX6 yX6_hang yX6_hang, .code yX6_drawSteps cX6_drawSteps 10 none, .fieldLink RX6 110 "AttribArbor$Equations" "count" "I", .methodLink RX6 93 yX1_resolvedFor, .methodLink RX6 99 yX1_hopsFor, .methodLink RX6 102 yX10_productionAt, .methodLink RX6 107 yX10_targetAt, .methodLink RX6 113 yX1_rowOf, .methodLink RX6 117 yX1_counts, .methodLink RX6 121 yX0_isFor, .instanceMethod yX0_isFor, .selects RX0 yX0_isFor yX0_isFor, .methodLink RX6 126 yX6_drawSteps, .instanceMethod yX6_drawSteps, .selects RX6 yX6_drawSteps yX6_drawSteps, .code yX6_drawEquations cX6_drawEquations 9 (some .boolean), .code yX6_hasBit cX6_hasBit 2 (some .boolean), .methodLink RX6 68 yX6_drawEquations, .instanceMethod yX6_drawEquations, .selects RX6 yX6_drawEquations yX6_drawEquations, .methodLink RX6 90 yX5_childHeadOf, .methodLink RX6 79 yX6_hasBit, .static yX6_hasBit, .code yX6_drawChild cX6_drawChild 8 none, .methodLink RX6 72 yX5_childCountOf, .methodLink RX6 75 yX6_drawChild, .instanceMethod yX6_drawChild, .selects RX6 yX6_drawChild yX6_drawChild, .code yX6_draw cX6_draw 4 none, .code yX6_downsOf cX6_downsOf 4 (some .int), .methodLink RX6 143 yX5_headOf, .methodLink RX6 146 yX6_downsOf, .instanceMethod yX6_downsOf, .selects RX6 yX6_downsOf yX6_downsOf, .code yX6_tellRelations cX6_tellRelations 8 (some .boolean), .code yX6_hasRing cX6_hasRing 2 (some .boolean), .fieldLink RX6 34 "AttribArbor$Grammar" "productions" "I", .methodLink RX6 40 yX6_draw, .instanceMethod yX6_draw, .selects RX6 yX6_draw yX6_draw, .methodLink RX6 44 yX6_tellRelations, .instanceMethod yX6_tellRelations, .selects RX6 yX6_tellRelations yX6_tellRelations, .methodLink RX6 48 yX6_hasRing, .instanceMethod yX6_hasRing]
def LW_5 : List Cond := [.selects RX6 yX6_hasRing yX6_hasRing, .code yX6_firstRing cX6_firstRing 4 (some .int), .code yX7_init cX7_init 6 none, .methodLink RX7 3 objectInit, .fieldLink RX7 9 "AttribArbor$Rings" "next" "[I", .fieldLink RX7 15 "AttribArbor$Rings" "grammar" "LAttribArbor$Grammar;", .fieldLink RX7 19 "AttribArbor$Rings" "tree" "LAttribArbor$Tree;", .fieldLink RX7 23 "AttribArbor$Rings" "finder" "LAttribArbor$Finder;", .fieldLink RX7 27 "AttribArbor$Rings" "scratch" "LAttribArbor$Findings;", .fieldLink RX7 31 "AttribArbor$Rings" "now" "[I", .code yX7_forget cX7_forget 1 none, .fieldLink RX7 34 "AttribArbor$Rings" "ready" "Z", .code yX7_valueOf cX7_valueOf 2 (some .int), .fieldLink RX7 55 "AttribArbor$Tree" "count" "I", .methodLink RX7 50 yX3_clear, .instanceMethod yX3_clear, .selects RX3 yX3_clear yX3_clear, .methodLink RX7 61 yX5_kindOf, .methodLink RX7 67 yX2_find, .methodLink RX7 77 yX7_valueOf, .instanceMethod yX7_valueOf, .selects RX7 yX7_valueOf yX7_valueOf, .initialized RX7, .code yX7_goRound cX7_goRound 4 (some .boolean), .methodLink RX7 46 yX7_goRound, .instanceMethod yX7_goRound, .selects RX7 yX7_goRound yX7_goRound, .code yX7_settle cX7_settle 2 none, .code yX8_init cX8_init 1 none, .methodLink RX8 3 objectInit, .code yX8_clear cX8_clear 1 none, .fieldLink RX8 37 "AttribArbor$Tree" "repairs" "I", .code yX8_append cX8_append 7 (some .int), .code yX8_rewriteTo cX8_rewriteTo 3 none, .code yX8_isAlike cX8_isAlike 4 (some .boolean), .methodLink RX8 77 yX8_readAsOf, .methodLink RX8 52 yX8_parentOf, .methodLink RX8 56 yX8_heirOf, .methodLink RX8 59 yX8_placeOf, .methodLink RX8 62 yX8_childOf, .methodLink RX8 66 yX8_isAlike, .instanceMethod yX8_isAlike, .selects RX8 yX8_isAlike yX8_isAlike, .methodLink RX8 70 yX8_nowOf, .methodLink RX8 73 yX8_rewriteTo, .instanceMethod yX8_rewriteTo, .selects RX8 yX8_rewriteTo yX8_rewriteTo, .code yX8_compare cX8_compare 5 (some .int), .code yX8_touched cX8_touched 3 (some .int), .code yX8_take cX8_take 2 none, .code yX9_init cX9_init 2 none, .methodLink RX9 5 objectInit, .fieldLink RX9 11 "AttribArbor$TreeReader" "text" "[I", .fieldLink RX9 15 "AttribArbor$TreeReader" "weights" "[I", .fieldLink RX9 18 "AttribArbor$TreeReader" "tails" "[I", .fieldLink RX9 21 "AttribArbor$TreeReader" "heads" "[I", .fieldLink RX9 24 "AttribArbor$TreeReader" "froms" "[I", .fieldLink RX9 27 "AttribArbor$TreeReader" "tos" "[I", .fieldLink RX9 30 "AttribArbor$TreeReader" "parents" "[I", .fieldLink RX9 33 "AttribArbor$TreeReader" "places" "[I", .fieldLink RX9 36 "AttribArbor$TreeReader" "ends" "[I", .fieldLink RX9 39 "AttribArbor$TreeReader" "grammar" "LAttribArbor$Grammar;", .code yX9_putLetter cX9_putLetter 4 none, .fieldLink RX9 43 "AttribArbor$TreeReader" "length" "I", .code yX9_takeLetter cX9_takeLetter 3 none, .code yX9_placeOf cX9_placeOf 3 (some .int), .code yX9_measureLetter cX9_measureLetter 6 none, .constant RX9 68 (100000), .methodLink RX9 88 yX9_placeOf, .static yX9_placeOf, .initialized RX9, .code yX9_weightOf cX9_weightOf 4 (some .int), .fieldLink RX9 111 "AttribArbor$TreeReader" "cut" "I", .constant RX9 67 (500000000), .methodLink RX9 96 yX5_lengthOf, .instanceMethod yX5_lengthOf, .selects RX5 yX5_lengthOf yX5_lengthOf, .methodLink RX9 107 yX5_symbolOf, .instanceMethod yX5_symbolOf, .selects RX5 yX5_symbolOf yX5_symbolOf, .methodLink RX9 63 yX9_weightOf, .instanceMethod yX9_weightOf, .selects RX9 yX9_weightOf yX9_weightOf, .code yX9_weigh cX9_weigh 13 (some .int), .fieldLink RX9 91 "AttribArbor$Grammar" "productions" "I", .methodLink RX9 100 yX9_weigh, .instanceMethod yX9_weigh, .selects RX9 yX9_weigh yX9_weigh, .methodLink RX9 104 yX5_headOf, .code yX9_measureStretch cX9_measureStretch 8 none, .methodLink RX9 80 yX9_measureLetter, .instanceMethod yX9_measureLetter, .selects RX9 yX9_measureLetter yX9_measureLetter, .methodLink RX9 84 yX9_measureStretch, .instanceMethod yX9_measureStretch, .selects RX9 yX9_measureStretch yX9_measureStretch, .code yX9_measure cX9_measure 3 none, .code yX9_await cX9_await 6 none, .fieldLink RX9 114 "AttribArbor$TreeReader" "waiting" "I", .code yX9_productionFor cX9_productionFor 6 (some .int)]
def LW_6 : List Cond := [.code yX9_cutUp cX9_cutUp 6 none, .code yX9_putsOf cX9_putsOf 8 (some .int), .methodLink RX9 137 yX5_childCountOf, .methodLink RX9 117 yX9_await, .instanceMethod yX9_await, .selects RX9 yX9_await yX9_await, .code yX9_awaitChildren cX9_awaitChildren 6 none, .methodLink RX9 121 yX9_productionFor, .instanceMethod yX9_productionFor, .selects RX9 yX9_productionFor yX9_productionFor, .methodLink RX9 124 yX9_cutUp, .instanceMethod yX9_cutUp, .selects RX9 yX9_cutUp yX9_cutUp, .methodLink RX9 128 yX9_putsOf, .instanceMethod yX9_putsOf, .selects RX9 yX9_putsOf yX9_putsOf, .methodLink RX9 131 yX8_append, .instanceMethod yX8_append, .selects RX8 yX8_append yX8_append, .methodLink RX9 134 yX9_awaitChildren, .instanceMethod yX9_awaitChildren, .selects RX9 yX9_awaitChildren yX9_awaitChildren, .code yX9_grow cX9_grow 8 none, .fieldLink RX9 73 "AttribArbor$Tree" "repairs" "I", .methodLink RX9 55 yX8_clear, .instanceMethod yX8_clear, .selects RX8 yX8_clear yX8_clear, .methodLink RX9 60 yX9_measure, .instanceMethod yX9_measure, .selects RX9 yX9_measure yX9_measure, .methodLink RX9 69 yX9_grow, .instanceMethod yX9_grow, .selects RX9 yX9_grow yX9_grow, .code yX9_readInto cX9_readInto 3 none, .code yX10_init cX10_init 2 none, .methodLink RX10 3 objectInit, .methodLink RX11 3 objectInit, .classLink RX11 9 RX5, .instantiable RX5 14, .fieldLink RX11 12 "AttribArbor" "grammar" "LAttribArbor$Grammar;", .classLink RX11 16 RX0, .fieldLink RX11 19 "AttribArbor" "draft" "LAttribArbor$Equation;", .classLink RX11 23 RX10, .instantiable RX10 3, .classLink RX11 28 RX1, .instantiable RX1 10, .fieldLink RX11 33 "AttribArbor" "equations" "LAttribArbor$Equations;", .classLink RX11 37 RX9, .instantiable RX9 13, .fieldLink RX11 40 "AttribArbor" "reader" "LAttribArbor$TreeReader;", .classLink RX11 44 RX8, .instantiable RX8 9, .fieldLink RX11 47 "AttribArbor" "tree" "LAttribArbor$Tree;", .fieldLink RX11 51 "AttribArbor" "fresh" "LAttribArbor$Tree;", .classLink RX11 54 RX3, .instantiable RX3 5, .fieldLink RX11 57 "AttribArbor" "kept" "LAttribArbor$Findings;", .fieldLink RX11 61 "AttribArbor" "scratch" "LAttribArbor$Findings;", .classLink RX11 64 RX2, .instantiable RX2 13, .fieldLink RX11 69 "AttribArbor" "finder" "LAttribArbor$Finder;", .classLink RX11 73 RX7, .instantiable RX7 7, .fieldLink RX11 78 "AttribArbor" "rings" "LAttribArbor$Rings;", .classLink RX11 82 RX6, .instantiable RX6 5, .fieldLink RX11 87 "AttribArbor" "graph" "LAttribArbor$HangGraph;", .instanceMethod yX5_init, .methodLink RX11 25 yX10_init, .instanceMethod yX10_init, .methodLink RX11 30 yX1_init, .instanceMethod yX1_init, .methodLink RX11 39 yX9_init, .instanceMethod yX9_init, .instanceMethod yX8_init, .instanceMethod yX3_init, .methodLink RX11 66 yX2_init, .instanceMethod yX2_init, .methodLink RX11 75 yX7_init, .instanceMethod yX7_init, .methodLink RX11 84 yX6_init, .instanceMethod yX6_init, .code yX11_init cX11_init 3 none, .code yX11_followsAsSymbol cX11_followsAsSymbol 3 (some .boolean), .methodLink RX11 339 yX1_arrange, .instanceMethod yX1_arrange, .selects RX1 yX1_arrange yX1_arrange, .methodLink RX11 302 yX3_clear, .methodLink RX11 299 yX7_forget, .instanceMethod yX7_forget, .selects RX7 yX7_forget yX7_forget, .code yX11_followGrammar cX11_followGrammar 1 none, .classLink RX11 91 "java/lang/IndexOutOfBoundsException", .initialized "java/lang/IndexOutOfBoundsException", .classLink RX11 102 "java/lang/IllegalArgumentException", .initialized "java/lang/IllegalArgumentException", .classLink RX11 111 "java/lang/IllegalStateException", .initialized "java/lang/IllegalStateException", .fieldLink RX11 107 "AttribArbor$Grammar" "productions" "I", .methodLink RX11 98 yX11_followsAsSymbol]
def LW_7 : List Cond := [.static yX11_followsAsSymbol, .methodLink RX11 116 yX5_addProduction, .instanceMethod yX5_addProduction, .selects RX5 yX5_addProduction yX5_addProduction, .methodLink RX11 120 yX11_followGrammar, .instanceMethod yX11_followGrammar, .selects RX11 yX11_followGrammar yX11_followGrammar, .code yX11_production cX11_production 6 (some .int), .code yX11_standsByChild cX11_standsByChild 5 (some .boolean), .methodLink RX11 201 yX5_childCountOf, .code yX11_standsRightly cX11_standsRightly 5 (some .boolean), .methodLink RX11 365 yX5_childHeadOf, .methodLink RX11 123 yX5_hasProduction, .instanceMethod yX5_hasProduction, .selects RX5 yX5_hasProduction yX5_hasProduction, .methodLink RX11 129 yX11_standsByChild, .instanceMethod yX11_standsByChild, .selects RX11 yX11_standsByChild yX11_standsByChild, .methodLink RX11 135 yX5_headOf, .methodLink RX11 141 yX11_standsRightly, .instanceMethod yX11_standsRightly, .selects RX11 yX11_standsRightly yX11_standsRightly, .methodLink RX11 146 yX5_tellForward, .instanceMethod yX5_tellForward, .selects RX5 yX5_tellForward yX5_tellForward, .code yX11_forward cX11_forward 7 (some .int), .code yX11_mustBeAttribute cX11_mustBeAttribute 2 none, .methodLink RX11 330 yX5_hasAttribute, .instanceMethod yX5_hasAttribute, .selects RX5 yX5_hasAttribute yX5_hasAttribute, .methodLink RX11 150 yX11_mustBeAttribute, .instanceMethod yX11_mustBeAttribute, .selects RX11 yX11_mustBeAttribute yX11_mustBeAttribute, .methodLink RX11 154 yX5_isAlikeInShape, .instanceMethod yX5_isAlikeInShape, .selects RX5 yX5_isAlikeInShape yX5_isAlikeInShape, .methodLink RX11 158 yX5_tellRule, .instanceMethod yX5_tellRule, .selects RX5 yX5_tellRule yX5_tellRule, .code yX11_rule cX11_rule 5 (some .int), .fieldLink RX11 164 "AttribArbor$Grammar" "attributes" "I", .methodLink RX11 169 yX5_addAttribute, .instanceMethod yX5_addAttribute, .selects RX5 yX5_addAttribute yX5_addAttribute, .code yX11_attribute cX11_attribute 3 (some .int), .code yX11_tellsAttribute cX11_tellsAttribute 1 (some .boolean), .code yX11_isRightNumber cX11_isRightNumber 3 (some .boolean), .methodLink RX11 172 yX11_tellsAttribute, .static yX11_tellsAttribute, .code yX11_isRightChild cX11_isRightChild 2 (some .boolean), .fieldLink RX11 183 "AttribArbor$Equation" "size" "I", .fieldLink RX11 186 "AttribArbor$Equation" "standing" "I", .methodLink RX11 175 yX11_isRightNumber, .static yX11_isRightNumber, .methodLink RX11 178 yX11_isRightChild, .static yX11_isRightChild, .methodLink RX11 189 yX11_operandsOf, .methodLink RX11 194 yX0_append, .instanceMethod yX0_append, .selects RX0 yX0_append yX0_append, .code yX11_step cX11_step 4 (some .int), .code yX11_dropSteps cX11_dropSteps 2 (some .int), .methodLink RX11 198 yX0_clear, .instanceMethod yX0_clear, .selects RX0 yX0_clear yX0_clear, .code yX11_mustBeAspect cX11_mustBeAspect 2 none, .code yX11_goesWithKind cX11_goesWithKind 2 (some .boolean), .fieldLink RX11 215 "AttribArbor$Equations" "count" "I", .methodLink RX11 204 yX11_mustBeAspect, .instanceMethod yX11_mustBeAspect, .selects RX11 yX11_mustBeAspect yX11_mustBeAspect, .methodLink RX11 207 yX5_kindOf, .methodLink RX11 210 yX11_goesWithKind, .static yX11_goesWithKind, .methodLink RX11 220 yX0_place, .methodLink RX11 224 yX1_append, .instanceMethod yX1_append, .selects RX1 yX1_append yX1_append, .code yX11_equation cX11_equation 7 (some .int), .methodLink RX11 227 yX1_turnAspect, .instanceMethod yX1_turnAspect, .selects RX1 yX1_turnAspect yX1_turnAspect, .code yX11_toggle cX11_toggle 3 (some .boolean), .methodLink RX11 230 yX1_countConflicts, .instanceMethod yX1_countConflicts, .selects RX1 yX1_countConflicts yX1_countConflicts, .code yX11_conflicts cX11_conflicts 1 (some .int), .methodLink RX11 234 yX6_firstRing, .instanceMethod yX6_firstRing, .selects RX6 yX6_firstRing yX6_firstRing, .code yX11_ringIn cX11_ringIn 1 (some .int), .fieldLink RX11 260 "AttribArbor$Tree" "count" "I", .constant RX11 295 (1073741824), .methodLink RX11 348 yX9_readInto, .instanceMethod yX9_readInto, .selects RX9 yX9_readInto yX9_readInto, .methodLink RX11 352 yX8_compare, .instanceMethod yX8_compare, .selects RX8 yX8_compare yX8_compare, .methodLink RX11 356 yX8_touched]
def LW_8 : List Cond := [.instanceMethod yX8_touched, .selects RX8 yX8_touched yX8_touched, .methodLink RX11 296 yX3_drop, .instanceMethod yX3_drop, .selects RX3 yX3_drop yX3_drop, .methodLink RX11 359 yX3_follow, .instanceMethod yX3_follow, .selects RX3 yX3_follow yX3_follow, .methodLink RX11 362 yX8_take, .instanceMethod yX8_take, .selects RX8 yX8_take yX8_take, .code yX11_readAgain cX11_readAgain 2 (some .int), .fieldLink RX11 237 "AttribArbor$TreeReader" "length" "I", .methodLink RX11 246 yX9_putLetter, .instanceMethod yX9_putLetter, .selects RX9 yX9_putLetter yX9_putLetter, .methodLink RX11 250 yX11_readAgain, .instanceMethod yX11_readAgain, .selects RX11 yX11_readAgain yX11_readAgain, .code yX11_insert cX11_insert 3 (some .int), .methodLink RX11 257 yX9_takeLetter, .instanceMethod yX9_takeLetter, .selects RX9 yX9_takeLetter yX9_takeLetter, .code yX11_delete cX11_delete 2 (some .int), .code yX11_read cX11_read 1 (some .int), .code yX11_cost cX11_cost 1 (some .int), .fieldLink RX11 261 "AttribArbor$Tree" "repairs" "I", .code yX11_mustBeNode cX11_mustBeNode 2 none, .methodLink RX11 264 yX11_mustBeNode, .instanceMethod yX11_mustBeNode, .selects RX11 yX11_mustBeNode yX11_mustBeNode, .methodLink RX11 267 yX8_readAsOf, .methodLink RX11 270 yX8_parentOf, .code yX11_node cX11_node 3 (some .int), .methodLink RX11 306 yX11_slotOf, .methodLink RX11 342 yX7_valueOf, .methodLink RX11 345 yX2_find, .code yX11_foundWith cX11_foundWith 4 (some .int), .methodLink RX11 273 yX8_nowOf, .methodLink RX11 276 yX5_ruleOtherOf, .methodLink RX11 279 yX7_settle, .instanceMethod yX7_settle, .selects RX7 yX7_settle yX7_settle, .methodLink RX11 282 yX5_ruleAttributeOf, .instanceMethod yX5_ruleAttributeOf, .selects RX5 yX5_ruleAttributeOf yX5_ruleAttributeOf, .methodLink RX11 285 yX11_foundWith, .instanceMethod yX11_foundWith, .selects RX11 yX11_foundWith yX11_foundWith, .methodLink RX11 289 yX8_rewriteTo, .methodLink RX11 292 yX11_bitOf, .code yX11_rewrite cX11_rewrite 5 (some .int), .code yX11_value cX11_value 3 (some .int), .code yX11_valueAnew cX11_valueAnew 3 (some .int), .code yX11_found cX11_found 1 (some .int), .fieldLink RX11 303 "AttribArbor$Findings" "made" "I", .methodLink RX11 310 yX3_has, .code yX11_isKept cX11_isKept 3 (some .boolean), .fieldLink RX11 317 "AttribArbor$Finder" "listed" "I", .fieldLink RX11 322 "AttribArbor$Finder" "list" "[I", .methodLink RX11 313 yX2_findListing, .instanceMethod yX2_findListing, .selects RX2 yX2_findListing yX2_findListing, .methodLink RX11 326 yX11_entryOf, .code yX11_why cX11_why 5 (some .int), .code yL_part cL_part 4 (some .int), .constant RL 7 (2147483647), .classLink RL 66 "java/lang/IndexOutOfBoundsException", .classLink RL 69 "java/lang/IllegalArgumentException", .classLink RL 72 "java/lang/IllegalStateException", .constant RL 68 (-3000000), .constant RL 71 (-2000000), .constant RL 74 (-1000000), .methodLink RL 8 yX11_production, .instanceMethod yX11_production, .selects RX11 yX11_production yX11_production, .methodLink RL 14 yX11_forward, .instanceMethod yX11_forward, .selects RX11 yX11_forward yX11_forward, .methodLink RL 18 yX11_rule, .instanceMethod yX11_rule, .selects RX11 yX11_rule yX11_rule, .methodLink RL 22 yX11_attribute, .instanceMethod yX11_attribute, .selects RX11 yX11_attribute yX11_attribute, .methodLink RL 26 yX11_step, .instanceMethod yX11_step, .selects RX11 yX11_step yX11_step, .methodLink RL 29 yX11_equation, .instanceMethod yX11_equation, .selects RX11 yX11_equation yX11_equation, .methodLink RL 32 yX11_toggle, .instanceMethod yX11_toggle, .selects RX11 yX11_toggle yX11_toggle, .methodLink RL 36 yX11_insert, .instanceMethod yX11_insert, .selects RX11 yX11_insert yX11_insert, .methodLink RL 40 yX11_delete, .instanceMethod yX11_delete, .selects RX11 yX11_delete yX11_delete]
def LW_9 : List Cond := [.methodLink RL 43 yX11_read, .instanceMethod yX11_read, .selects RX11 yX11_read yX11_read, .methodLink RL 47 yX11_rewrite, .instanceMethod yX11_rewrite, .selects RX11 yX11_rewrite yX11_rewrite, .methodLink RL 50 yX11_value, .instanceMethod yX11_value, .selects RX11 yX11_value yX11_value, .methodLink RL 53 yX11_node, .instanceMethod yX11_node, .selects RX11 yX11_node yX11_node, .methodLink RL 56 yX11_why, .instanceMethod yX11_why, .selects RX11 yX11_why yX11_why, .methodLink RL 59 yX11_isKept, .instanceMethod yX11_isKept, .selects RX11 yX11_isKept yX11_isKept, .methodLink RL 63 yX11_valueAnew, .instanceMethod yX11_valueAnew, .selects RX11 yX11_valueAnew yX11_valueAnew, .codeWith yL_does cL_does 8 (some .int) [(0, 253, 254, 66), (0, 253, 259, 69), (0, 253, 264, 72)], .code yL_symbol cL_symbol 3 (some .int), .code yL_children cL_children 4 (some .int), .methodLink RL 75 yL_symbol, .static yL_symbol, .initialized RL, .code yL_childOf cL_childOf 6 (some .int), .methodLink RL 81 yX11_cost, .instanceMethod yX11_cost, .selects RX11 yX11_cost yX11_cost, .methodLink RL 84 yL_does, .static yL_does, .methodLink RL 88 yL_children, .static yL_children, .methodLink RL 92 yL_childOf, .static yL_childOf, .code yL_isTree cL_isTree 10 (some .boolean), .methodLink RL 95 yX11_found, .instanceMethod yX11_found, .selects RX11 yX11_found yX11_found, .code yL_isTold cL_isTold 9 (some .boolean), .code yL_areReads cL_areReads 11 (some .boolean), .code yL_conflicts cL_conflicts 7 (some .int), .code yL_isProduction cL_isProduction 10 (some .boolean), .methodLink RL 98 yL_part, .static yL_part, .methodLink RL 101 yX11_dropSteps, .instanceMethod yX11_dropSteps, .selects RX11 yX11_dropSteps yX11_dropSteps, .code yL_isEquation cL_isEquation 17 (some .boolean), .code yL_isRead cL_isRead 7 (some .boolean), .methodLink RL 104 yL_isRead, .static yL_isRead, .code yL_isChanged cL_isChanged 9 (some .boolean), .code yL_isRewritten cL_isRewritten 7 (some .boolean), .constant RL 108 (60000), .constant RL 109 (70000), .methodLink RL 110 yL_isProduction, .static yL_isProduction, .methodLink RL 114 yL_isEquation, .static yL_isEquation, .methodLink RL 118 yL_isChanged, .static yL_isChanged, .methodLink RL 122 yL_isRewritten, .static yL_isRewritten, .methodLink RL 126 yL_isTold, .static yL_isTold, .methodLink RL 129 yL_areReads, .static yL_areReads, .code yL_isLaw cL_isLaw 15 (some .boolean), .classLink RL 9 RX11, .instantiable RX11 11, .methodLink RL 132 yX11_init, .instanceMethod yX11_init, .methodLink RL 133 yX11_ringIn, .instanceMethod yX11_ringIn, .selects RX11 yX11_ringIn yX11_ringIn, .methodLink RL 136 yL_isLaw, .static yL_isLaw, .methodLink RL 140 yX11_conflicts, .instanceMethod yX11_conflicts, .selects RX11 yX11_conflicts yX11_conflicts, .methodLink RL 143 yL_conflicts, .static yL_conflicts, .methodLink RL 146 yL_isTree, .static yL_isTree]
def LW_10 : List Cond := wsX00 ++ (wsX10 ++ (wsX20 ++ (wsX30 ++ (wsX40 ++ (wsX50 ++ (wsX60 ++ (wsX70 ++ (wsX80 ++ (wsX90 ++ (wsX100 ++ (wsX110)))))))))))
def LW : List Cond := LW_0 ++ (LW_1 ++ (LW_2 ++ (LW_3 ++ (LW_4 ++ (LW_5 ++ (LW_6 ++ (LW_7 ++ (LW_8 ++ (LW_9 ++ (LW_10))))))))))
theorem LW_0_in : ∀ w ∈ LW_0, w ∈ LW := fun w h => List.mem_append_left _ h
theorem LW_1_in : ∀ w ∈ LW_1, w ∈ LW := fun w h => List.mem_append_right _ (List.mem_append_left _ h)
theorem LW_2_in : ∀ w ∈ LW_2, w ∈ LW := fun w h => List.mem_append_right _ (List.mem_append_right _ (List.mem_append_left _ h))
theorem LW_3_in : ∀ w ∈ LW_3, w ∈ LW := fun w h => List.mem_append_right _ (List.mem_append_right _ (List.mem_append_right _ (List.mem_append_left _ h)))
theorem LW_4_in : ∀ w ∈ LW_4, w ∈ LW := fun w h => List.mem_append_right _ (List.mem_append_right _ (List.mem_append_right _ (List.mem_append_right _ (List.mem_append_left _ h))))
theorem LW_5_in : ∀ w ∈ LW_5, w ∈ LW := fun w h => List.mem_append_right _ (List.mem_append_right _ (List.mem_append_right _ (List.mem_append_right _ (List.mem_append_right _ (List.mem_append_left _ h)))))
theorem LW_6_in : ∀ w ∈ LW_6, w ∈ LW := fun w h => List.mem_append_right _ (List.mem_append_right _ (List.mem_append_right _ (List.mem_append_right _ (List.mem_append_right _ (List.mem_append_right _ (List.mem_append_left _ h))))))
theorem LW_7_in : ∀ w ∈ LW_7, w ∈ LW := fun w h => List.mem_append_right _ (List.mem_append_right _ (List.mem_append_right _ (List.mem_append_right _ (List.mem_append_right _ (List.mem_append_right _ (List.mem_append_right _ (List.mem_append_left _ h)))))))
theorem LW_8_in : ∀ w ∈ LW_8, w ∈ LW := fun w h => List.mem_append_right _ (List.mem_append_right _ (List.mem_append_right _ (List.mem_append_right _ (List.mem_append_right _ (List.mem_append_right _ (List.mem_append_right _ (List.mem_append_right _ (List.mem_append_left _ h))))))))
theorem LW_9_in : ∀ w ∈ LW_9, w ∈ LW := fun w h => List.mem_append_right _ (List.mem_append_right _ (List.mem_append_right _ (List.mem_append_right _ (List.mem_append_right _ (List.mem_append_right _ (List.mem_append_right _ (List.mem_append_right _ (List.mem_append_right _ (List.mem_append_left _ h)))))))))
theorem LW_10_in : ∀ w ∈ LW_10, w ∈ LW := fun w h => List.mem_append_right _ (List.mem_append_right _ (List.mem_append_right _ (List.mem_append_right _ (List.mem_append_right _ (List.mem_append_right _ (List.mem_append_right _ (List.mem_append_right _ (List.mem_append_right _ (List.mem_append_right _ (h))))))))))
theorem lw0 : Cond.code yX0_init cX0_init 1 none ∈ LW := LW_0_in _ (List.mem_of_getElem? (i := 0) rfl)
theorem lw1 : Cond.methodLink RX0 3 objectInit ∈ LW := LW_0_in _ (List.mem_of_getElem? (i := 1) rfl)
theorem lw2 : Cond.instanceMethod objectInit ∈ LW := LW_0_in _ (List.mem_of_getElem? (i := 2) rfl)
theorem lw3 : Cond.code objectInit ⟨#[0xb1]⟩ 1 none ∈ LW := LW_0_in _ (List.mem_of_getElem? (i := 3) rfl)
theorem lw4 : Cond.arrayClass .int ∈ LW := LW_0_in _ (List.mem_of_getElem? (i := 4) rfl)
theorem lw5 : Cond.fieldLink RX0 9 "AttribArbor$Equation" "kinds" "[I" ∈ LW := LW_0_in _ (List.mem_of_getElem? (i := 5) rfl)
theorem lw6 : Cond.fieldLink RX0 15 "AttribArbor$Equation" "numbers" "[I" ∈ LW := LW_0_in _ (List.mem_of_getElem? (i := 6) rfl)
theorem lw7 : Cond.fieldLink RX0 18 "AttribArbor$Equation" "children" "[I" ∈ LW := LW_0_in _ (List.mem_of_getElem? (i := 7) rfl)
theorem lw8 : Cond.fieldLink RX0 21 "AttribArbor$Equation" "users" "[I" ∈ LW := LW_0_in _ (List.mem_of_getElem? (i := 8) rfl)
theorem lw9 : Cond.fieldLink RX0 24 "AttribArbor$Equation" "roles" "[I" ∈ LW := LW_0_in _ (List.mem_of_getElem? (i := 9) rfl)
theorem lw10 : Cond.fieldLink RX0 27 "AttribArbor$Equation" "starts" "[I" ∈ LW := LW_0_in _ (List.mem_of_getElem? (i := 10) rfl)
theorem lw11 : Cond.fieldLink RX0 30 "AttribArbor$Equation" "stack" "[I" ∈ LW := LW_0_in _ (List.mem_of_getElem? (i := 11) rfl)
theorem lw12 : Cond.code yX11_operandsOf cX11_operandsOf 1 (some .int) ∈ LW := LW_0_in _ (List.mem_of_getElem? (i := 12) rfl)
theorem lw13 : Cond.code yX11_entryOf cX11_entryOf 2 (some .int) ∈ LW := LW_0_in _ (List.mem_of_getElem? (i := 13) rfl)
theorem lw14 : Cond.code yX11_setEntry cX11_setEntry 3 none ∈ LW := LW_0_in _ (List.mem_of_getElem? (i := 14) rfl)
theorem lw15 : Cond.code yX0_append cX0_append 8 none ∈ LW := LW_0_in _ (List.mem_of_getElem? (i := 15) rfl)
theorem lw16 : Cond.fieldLink RX0 37 "AttribArbor$Equation" "size" "I" ∈ LW := LW_0_in _ (List.mem_of_getElem? (i := 16) rfl)
theorem lw17 : Cond.fieldLink RX0 41 "AttribArbor$Equation" "standing" "I" ∈ LW := LW_0_in _ (List.mem_of_getElem? (i := 17) rfl)
theorem lw18 : Cond.static yX11_operandsOf ∈ LW := LW_0_in _ (List.mem_of_getElem? (i := 18) rfl)
theorem lw19 : Cond.initialized RX11 ∈ LW := LW_0_in _ (List.mem_of_getElem? (i := 19) rfl)
theorem lw20 : Cond.static yX11_entryOf ∈ LW := LW_0_in _ (List.mem_of_getElem? (i := 20) rfl)
theorem lw21 : Cond.static yX11_setEntry ∈ LW := LW_0_in _ (List.mem_of_getElem? (i := 21) rfl)
theorem lw22 : Cond.code yX0_clear cX0_clear 1 none ∈ LW := LW_0_in _ (List.mem_of_getElem? (i := 22) rfl)
theorem lw23 : Cond.code yX0_place cX0_place 5 none ∈ LW := LW_0_in _ (List.mem_of_getElem? (i := 23) rfl)
theorem lw24 : Cond.fieldLink RX0 52 "AttribArbor$Equation" "production" "I" ∈ LW := LW_0_in _ (List.mem_of_getElem? (i := 24) rfl)
theorem lw25 : Cond.fieldLink RX0 55 "AttribArbor$Equation" "attribute" "I" ∈ LW := LW_0_in _ (List.mem_of_getElem? (i := 25) rfl)
theorem lw26 : Cond.fieldLink RX0 58 "AttribArbor$Equation" "target" "I" ∈ LW := LW_0_in _ (List.mem_of_getElem? (i := 26) rfl)
theorem lw27 : Cond.fieldLink RX0 61 "AttribArbor$Equation" "aspect" "I" ∈ LW := LW_0_in _ (List.mem_of_getElem? (i := 27) rfl)
theorem lw28 : Cond.code yX11_copyRow cX11_copyRow 3 none ∈ LW := LW_0_in _ (List.mem_of_getElem? (i := 28) rfl)
theorem lw29 : Cond.code yX0_take cX0_take 2 none ∈ LW := LW_0_in _ (List.mem_of_getElem? (i := 29) rfl)
theorem lw30 : Cond.methodLink RX0 64 yX0_place ∈ LW := LW_0_in _ (List.mem_of_getElem? (i := 30) rfl)
theorem lw31 : Cond.instanceMethod yX0_place ∈ LW := LW_0_in _ (List.mem_of_getElem? (i := 31) rfl)
theorem lw32 : Cond.selects RX0 yX0_place yX0_place ∈ LW := LW_0_in _ (List.mem_of_getElem? (i := 32) rfl)
theorem lw33 : Cond.initialized RX0 ∈ LW := LW_0_in _ (List.mem_of_getElem? (i := 33) rfl)
theorem lw34 : Cond.static yX11_copyRow ∈ LW := LW_0_in _ (List.mem_of_getElem? (i := 34) rfl)
theorem lw35 : Cond.code yX0_isFor cX0_isFor 4 (some .boolean) ∈ LW := LW_0_in _ (List.mem_of_getElem? (i := 35) rfl)
theorem lw36 : Cond.code yX0_kindOf cX0_kindOf 2 (some .int) ∈ LW := LW_0_in _ (List.mem_of_getElem? (i := 36) rfl)
theorem lw37 : Cond.code yX0_numberOf cX0_numberOf 2 (some .int) ∈ LW := LW_0_in _ (List.mem_of_getElem? (i := 37) rfl)
theorem lw38 : Cond.code yX0_childOf cX0_childOf 2 (some .int) ∈ LW := LW_0_in _ (List.mem_of_getElem? (i := 38) rfl)
theorem lw39 : Cond.code yX0_userOf cX0_userOf 2 (some .int) ∈ LW := LW_0_in _ (List.mem_of_getElem? (i := 39) rfl)
theorem lw40 : Cond.code yX0_roleOf cX0_roleOf 2 (some .int) ∈ LW := LW_0_in _ (List.mem_of_getElem? (i := 40) rfl)
theorem lw41 : Cond.code yX0_startOf cX0_startOf 2 (some .int) ∈ LW := LW_0_in _ (List.mem_of_getElem? (i := 41) rfl)
theorem lw42 : Cond.methodLink RX1 5 objectInit ∈ LW := LW_0_in _ (List.mem_of_getElem? (i := 42) rfl)
theorem lw43 : Cond.classLink RX1 11 RX0 ∈ LW := LW_0_in _ (List.mem_of_getElem? (i := 43) rfl)
theorem lw44 : Cond.fieldLink RX1 13 "AttribArbor$Equations" "rows" "[LAttribArbor$Equation;" ∈ LW := LW_0_in _ (List.mem_of_getElem? (i := 44) rfl)
theorem lw45 : Cond.arrayClass .boolean ∈ LW := LW_0_in _ (List.mem_of_getElem? (i := 45) rfl)
theorem lw46 : Cond.fieldLink RX1 17 "AttribArbor$Equations" "off" "[Z" ∈ LW := LW_0_in _ (List.mem_of_getElem? (i := 46) rfl)
theorem lw47 : Cond.fieldLink RX1 21 "AttribArbor$Equations" "singles" "[I" ∈ LW := LW_0_in _ (List.mem_of_getElem? (i := 47) rfl)
theorem lw48 : Cond.fieldLink RX1 25 "AttribArbor$Equations" "resolved" "[I" ∈ LW := LW_0_in _ (List.mem_of_getElem? (i := 48) rfl)
theorem lw49 : Cond.fieldLink RX1 28 "AttribArbor$Equations" "hops" "[I" ∈ LW := LW_0_in _ (List.mem_of_getElem? (i := 49) rfl)
theorem lw50 : Cond.fieldLink RX1 31 "AttribArbor$Equations" "firstGifts" "[I" ∈ LW := LW_0_in _ (List.mem_of_getElem? (i := 50) rfl)
theorem lw51 : Cond.fieldLink RX1 34 "AttribArbor$Equations" "nextGifts" "[I" ∈ LW := LW_0_in _ (List.mem_of_getElem? (i := 51) rfl)
theorem lw52 : Cond.fieldLink RX1 37 "AttribArbor$Equations" "grammar" "LAttribArbor$Grammar;" ∈ LW := LW_0_in _ (List.mem_of_getElem? (i := 52) rfl)
theorem lw53 : Cond.fieldLink RX1 41 "AttribArbor$Equations" "views" "LAttribArbor$Views;" ∈ LW := LW_0_in _ (List.mem_of_getElem? (i := 53) rfl)
theorem lw54 : Cond.instantiable RX0 13 ∈ LW := LW_0_in _ (List.mem_of_getElem? (i := 54) rfl)
theorem lw55 : Cond.instanceMethod yX0_init ∈ LW := LW_0_in _ (List.mem_of_getElem? (i := 55) rfl)
theorem lw56 : Cond.code yX1_init cX1_init 4 none ∈ LW := LW_0_in _ (List.mem_of_getElem? (i := 56) rfl)
theorem lw57 : Cond.fieldLink RX1 46 "AttribArbor$Equations" "count" "I" ∈ LW := LW_0_in _ (List.mem_of_getElem? (i := 57) rfl)
theorem lw58 : Cond.methodLink RX1 50 yX0_take ∈ LW := LW_0_in _ (List.mem_of_getElem? (i := 58) rfl)
theorem lw59 : Cond.instanceMethod yX0_take ∈ LW := LW_0_in _ (List.mem_of_getElem? (i := 59) rfl)
theorem lw60 : Cond.selects RX0 yX0_take yX0_take ∈ LW := LW_0_in _ (List.mem_of_getElem? (i := 60) rfl)
theorem lw61 : Cond.code yX1_append cX1_append 4 (some .int) ∈ LW := LW_0_in _ (List.mem_of_getElem? (i := 61) rfl)
theorem lw62 : Cond.code yX1_turnAspect cX1_turnAspect 2 (some .boolean) ∈ LW := LW_0_in _ (List.mem_of_getElem? (i := 62) rfl)
theorem lw63 : Cond.code yX1_rowOf cX1_rowOf 2 (some (.object "AttribArbor$Equation")) ∈ LW := LW_0_in _ (List.mem_of_getElem? (i := 63) rfl)
theorem lw64 : Cond.code yX1_counts cX1_counts 3 (some .boolean) ∈ LW := LW_0_in _ (List.mem_of_getElem? (i := 64) rfl)
theorem lw65 : Cond.fieldLink RX1 54 "AttribArbor$Equation" "aspect" "I" ∈ LW := LW_0_in _ (List.mem_of_getElem? (i := 65) rfl)
theorem lw66 : Cond.code yX11_fillRow cX11_fillRow 3 none ∈ LW := LW_0_in _ (List.mem_of_getElem? (i := 66) rfl)
theorem lw67 : Cond.code yX5_childCountOf cX5_childCountOf 2 (some .int) ∈ LW := LW_0_in _ (List.mem_of_getElem? (i := 67) rfl)
theorem lw68 : Cond.fieldLink RX5 21 "AttribArbor$Grammar" "childCounts" "[I" ∈ LW := LW_0_in _ (List.mem_of_getElem? (i := 68) rfl)
theorem lw69 : Cond.code yX5_standInOf cX5_standInOf 4 (some .int) ∈ LW := LW_0_in _ (List.mem_of_getElem? (i := 69) rfl)
theorem lw70 : Cond.fieldLink RX5 36 "AttribArbor$Grammar" "standIns" "[I" ∈ LW := LW_0_in _ (List.mem_of_getElem? (i := 70) rfl)
theorem lw71 : Cond.code yX10_childAt cX10_childAt 6 (some .int) ∈ LW := LW_0_in _ (List.mem_of_getElem? (i := 71) rfl)
theorem lw72 : Cond.fieldLink RX10 15 "AttribArbor$Views" "standing" "[I" ∈ LW := LW_0_in _ (List.mem_of_getElem? (i := 72) rfl)
theorem lw73 : Cond.code yX5_forwardOf cX5_forwardOf 2 (some .int) ∈ LW := LW_0_in _ (List.mem_of_getElem? (i := 73) rfl)
theorem lw74 : Cond.fieldLink RX5 33 "AttribArbor$Grammar" "forwards" "[I" ∈ LW := LW_0_in _ (List.mem_of_getElem? (i := 74) rfl)
theorem lw75 : Cond.fieldLink RX10 11 "AttribArbor$Views" "productions" "[I" ∈ LW := LW_0_in _ (List.mem_of_getElem? (i := 75) rfl)
theorem lw76 : Cond.fieldLink RX10 18 "AttribArbor$Views" "grammar" "LAttribArbor$Grammar;" ∈ LW := LW_0_in _ (List.mem_of_getElem? (i := 76) rfl)
theorem lw77 : Cond.methodLink RX10 39 yX5_childCountOf ∈ LW := LW_0_in _ (List.mem_of_getElem? (i := 77) rfl)
theorem lw78 : Cond.instanceMethod yX5_childCountOf ∈ LW := LW_0_in _ (List.mem_of_getElem? (i := 78) rfl)
theorem lw79 : Cond.selects RX5 yX5_childCountOf yX5_childCountOf ∈ LW := LW_0_in _ (List.mem_of_getElem? (i := 79) rfl)
theorem lw80 : Cond.initialized RX5 ∈ LW := LW_0_in _ (List.mem_of_getElem? (i := 80) rfl)
theorem lw81 : Cond.methodLink RX10 43 yX5_standInOf ∈ LW := LW_0_in _ (List.mem_of_getElem? (i := 81) rfl)
theorem lw82 : Cond.instanceMethod yX5_standInOf ∈ LW := LW_0_in _ (List.mem_of_getElem? (i := 82) rfl)
theorem lw83 : Cond.selects RX5 yX5_standInOf yX5_standInOf ∈ LW := LW_0_in _ (List.mem_of_getElem? (i := 83) rfl)
theorem lw84 : Cond.methodLink RX10 47 yX10_childAt ∈ LW := LW_0_in _ (List.mem_of_getElem? (i := 84) rfl)
theorem lw85 : Cond.instanceMethod yX10_childAt ∈ LW := LW_0_in _ (List.mem_of_getElem? (i := 85) rfl)
theorem lw86 : Cond.selects RX10 yX10_childAt yX10_childAt ∈ LW := LW_0_in _ (List.mem_of_getElem? (i := 86) rfl)
theorem lw87 : Cond.initialized RX10 ∈ LW := LW_0_in _ (List.mem_of_getElem? (i := 87) rfl)
theorem lw88 : Cond.methodLink RX10 51 yX5_forwardOf ∈ LW := LW_0_in _ (List.mem_of_getElem? (i := 88) rfl)
theorem lw89 : Cond.instanceMethod yX5_forwardOf ∈ LW := LW_0_in _ (List.mem_of_getElem? (i := 89) rfl)
theorem lw90 : Cond.selects RX5 yX5_forwardOf yX5_forwardOf ∈ LW := LW_0_in _ (List.mem_of_getElem? (i := 90) rfl)
theorem lw91 : Cond.code yX10_arrangeOne cX10_arrangeOne 9 none ∈ LW := LW_0_in _ (List.mem_of_getElem? (i := 91) rfl)
theorem lw92 : Cond.fieldLink RX10 26 "AttribArbor$Grammar" "productions" "I" ∈ LW := LW_0_in _ (List.mem_of_getElem? (i := 92) rfl)
theorem lw93 : Cond.static yX11_fillRow ∈ LW := LW_0_in _ (List.mem_of_getElem? (i := 93) rfl)
theorem lw94 : Cond.methodLink RX10 31 yX10_arrangeOne ∈ LW := LW_0_in _ (List.mem_of_getElem? (i := 94) rfl)
theorem lw95 : Cond.instanceMethod yX10_arrangeOne ∈ LW := LW_0_in _ (List.mem_of_getElem? (i := 95) rfl)
theorem lw96 : Cond.selects RX10 yX10_arrangeOne yX10_arrangeOne ∈ LW := LW_0_in _ (List.mem_of_getElem? (i := 96) rfl)
theorem lw97 : Cond.code yX10_arrange cX10_arrange 2 none ∈ LW := LW_0_in _ (List.mem_of_getElem? (i := 97) rfl)
theorem lw98 : Cond.code yX1_placeOf cX1_placeOf 3 (some .int) ∈ LW := LW_0_in _ (List.mem_of_getElem? (i := 98) rfl)
theorem lw99 : Cond.code yX1_arrangeOne cX1_arrangeOne 5 none ∈ LW := LW_0_in _ (List.mem_of_getElem? (i := 99) rfl)
theorem lw100 : Cond.fieldLink RX1 90 "AttribArbor$Equation" "production" "I" ∈ LW := LW_1_in _ (List.mem_of_getElem? (i := 0) rfl)
theorem lw101 : Cond.fieldLink RX1 93 "AttribArbor$Equation" "attribute" "I" ∈ LW := LW_1_in _ (List.mem_of_getElem? (i := 1) rfl)
theorem lw102 : Cond.fieldLink RX1 96 "AttribArbor$Equation" "target" "I" ∈ LW := LW_1_in _ (List.mem_of_getElem? (i := 2) rfl)
theorem lw103 : Cond.methodLink RX1 107 yX1_placeOf ∈ LW := LW_1_in _ (List.mem_of_getElem? (i := 3) rfl)
theorem lw104 : Cond.static yX1_placeOf ∈ LW := LW_1_in _ (List.mem_of_getElem? (i := 4) rfl)
theorem lw105 : Cond.initialized RX1 ∈ LW := LW_1_in _ (List.mem_of_getElem? (i := 5) rfl)
theorem lw106 : Cond.code yX10_productionAt cX10_productionAt 5 (some .int) ∈ LW := LW_1_in _ (List.mem_of_getElem? (i := 6) rfl)
theorem lw107 : Cond.code yX10_targetAt cX10_targetAt 5 (some .int) ∈ LW := LW_1_in _ (List.mem_of_getElem? (i := 7) rfl)
theorem lw108 : Cond.methodLink RX1 111 yX10_productionAt ∈ LW := LW_1_in _ (List.mem_of_getElem? (i := 8) rfl)
theorem lw109 : Cond.instanceMethod yX10_productionAt ∈ LW := LW_1_in _ (List.mem_of_getElem? (i := 9) rfl)
theorem lw110 : Cond.selects RX10 yX10_productionAt yX10_productionAt ∈ LW := LW_1_in _ (List.mem_of_getElem? (i := 10) rfl)
theorem lw111 : Cond.methodLink RX1 115 yX10_targetAt ∈ LW := LW_1_in _ (List.mem_of_getElem? (i := 11) rfl)
theorem lw112 : Cond.instanceMethod yX10_targetAt ∈ LW := LW_1_in _ (List.mem_of_getElem? (i := 12) rfl)
theorem lw113 : Cond.selects RX10 yX10_targetAt yX10_targetAt ∈ LW := LW_1_in _ (List.mem_of_getElem? (i := 13) rfl)
theorem lw114 : Cond.code yX1_resolve cX1_resolve 9 none ∈ LW := LW_1_in _ (List.mem_of_getElem? (i := 14) rfl)
theorem lw115 : Cond.fieldLink RX1 78 "AttribArbor$Grammar" "productions" "I" ∈ LW := LW_1_in _ (List.mem_of_getElem? (i := 15) rfl)
theorem lw116 : Cond.fieldLink RX1 83 "AttribArbor$Grammar" "attributes" "I" ∈ LW := LW_1_in _ (List.mem_of_getElem? (i := 16) rfl)
theorem lw117 : Cond.methodLink RX1 57 yX10_arrange ∈ LW := LW_1_in _ (List.mem_of_getElem? (i := 17) rfl)
theorem lw118 : Cond.instanceMethod yX10_arrange ∈ LW := LW_1_in _ (List.mem_of_getElem? (i := 18) rfl)
theorem lw119 : Cond.selects RX10 yX10_arrange yX10_arrange ∈ LW := LW_1_in _ (List.mem_of_getElem? (i := 19) rfl)
theorem lw120 : Cond.methodLink RX1 66 yX1_rowOf ∈ LW := LW_1_in _ (List.mem_of_getElem? (i := 20) rfl)
theorem lw121 : Cond.instanceMethod yX1_rowOf ∈ LW := LW_1_in _ (List.mem_of_getElem? (i := 21) rfl)
theorem lw122 : Cond.selects RX1 yX1_rowOf yX1_rowOf ∈ LW := LW_1_in _ (List.mem_of_getElem? (i := 22) rfl)
theorem lw123 : Cond.methodLink RX1 70 yX1_counts ∈ LW := LW_1_in _ (List.mem_of_getElem? (i := 23) rfl)
theorem lw124 : Cond.instanceMethod yX1_counts ∈ LW := LW_1_in _ (List.mem_of_getElem? (i := 24) rfl)
theorem lw125 : Cond.selects RX1 yX1_counts yX1_counts ∈ LW := LW_1_in _ (List.mem_of_getElem? (i := 25) rfl)
theorem lw126 : Cond.methodLink RX1 74 yX1_arrangeOne ∈ LW := LW_1_in _ (List.mem_of_getElem? (i := 26) rfl)
theorem lw127 : Cond.instanceMethod yX1_arrangeOne ∈ LW := LW_1_in _ (List.mem_of_getElem? (i := 27) rfl)
theorem lw128 : Cond.selects RX1 yX1_arrangeOne yX1_arrangeOne ∈ LW := LW_1_in _ (List.mem_of_getElem? (i := 28) rfl)
theorem lw129 : Cond.methodLink RX1 86 yX1_resolve ∈ LW := LW_1_in _ (List.mem_of_getElem? (i := 29) rfl)
theorem lw130 : Cond.instanceMethod yX1_resolve ∈ LW := LW_1_in _ (List.mem_of_getElem? (i := 30) rfl)
theorem lw131 : Cond.selects RX1 yX1_resolve yX1_resolve ∈ LW := LW_1_in _ (List.mem_of_getElem? (i := 31) rfl)
theorem lw132 : Cond.code yX1_arrange cX1_arrange 4 none ∈ LW := LW_1_in _ (List.mem_of_getElem? (i := 32) rfl)
theorem lw133 : Cond.code yX1_resolvedFor cX1_resolvedFor 4 (some .int) ∈ LW := LW_1_in _ (List.mem_of_getElem? (i := 33) rfl)
theorem lw134 : Cond.code yX1_hopsFor cX1_hopsFor 4 (some .int) ∈ LW := LW_1_in _ (List.mem_of_getElem? (i := 34) rfl)
theorem lw135 : Cond.code yX1_firstGiftOf cX1_firstGiftOf 4 (some .int) ∈ LW := LW_1_in _ (List.mem_of_getElem? (i := 35) rfl)
theorem lw136 : Cond.code yX1_nextGiftOf cX1_nextGiftOf 2 (some .int) ∈ LW := LW_1_in _ (List.mem_of_getElem? (i := 36) rfl)
theorem lw137 : Cond.code yX1_isInConflict cX1_isInConflict 3 (some .boolean) ∈ LW := LW_1_in _ (List.mem_of_getElem? (i := 37) rfl)
theorem lw138 : Cond.methodLink RX1 118 yX1_isInConflict ∈ LW := LW_1_in _ (List.mem_of_getElem? (i := 38) rfl)
theorem lw139 : Cond.instanceMethod yX1_isInConflict ∈ LW := LW_1_in _ (List.mem_of_getElem? (i := 39) rfl)
theorem lw140 : Cond.selects RX1 yX1_isInConflict yX1_isInConflict ∈ LW := LW_1_in _ (List.mem_of_getElem? (i := 40) rfl)
theorem lw141 : Cond.code yX1_countConflicts cX1_countConflicts 4 (some .int) ∈ LW := LW_1_in _ (List.mem_of_getElem? (i := 41) rfl)
theorem lw142 : Cond.code yX4_init cX4_init 1 none ∈ LW := LW_1_in _ (List.mem_of_getElem? (i := 42) rfl)
theorem lw143 : Cond.methodLink RX4 3 objectInit ∈ LW := LW_1_in _ (List.mem_of_getElem? (i := 43) rfl)
theorem lw144 : Cond.fieldLink RX4 9 "AttribArbor$Frame" "held" "[I" ∈ LW := LW_1_in _ (List.mem_of_getElem? (i := 44) rfl)
theorem lw145 : Cond.code yX2_init cX2_init 7 none ∈ LW := LW_1_in _ (List.mem_of_getElem? (i := 45) rfl)
theorem lw146 : Cond.methodLink RX2 3 objectInit ∈ LW := LW_1_in _ (List.mem_of_getElem? (i := 46) rfl)
theorem lw147 : Cond.fieldLink RX2 9 "AttribArbor$Finder" "list" "[I" ∈ LW := LW_1_in _ (List.mem_of_getElem? (i := 47) rfl)
theorem lw148 : Cond.classLink RX2 15 RX4 ∈ LW := LW_1_in _ (List.mem_of_getElem? (i := 48) rfl)
theorem lw149 : Cond.fieldLink RX2 17 "AttribArbor$Finder" "frames" "[LAttribArbor$Frame;" ∈ LW := LW_1_in _ (List.mem_of_getElem? (i := 49) rfl)
theorem lw150 : Cond.fieldLink RX2 21 "AttribArbor$Finder" "open" "[Z" ∈ LW := LW_1_in _ (List.mem_of_getElem? (i := 50) rfl)
theorem lw151 : Cond.fieldLink RX2 25 "AttribArbor$Finder" "grammar" "LAttribArbor$Grammar;" ∈ LW := LW_1_in _ (List.mem_of_getElem? (i := 51) rfl)
theorem lw152 : Cond.fieldLink RX2 29 "AttribArbor$Finder" "equations" "LAttribArbor$Equations;" ∈ LW := LW_1_in _ (List.mem_of_getElem? (i := 52) rfl)
theorem lw153 : Cond.fieldLink RX2 33 "AttribArbor$Finder" "views" "LAttribArbor$Views;" ∈ LW := LW_1_in _ (List.mem_of_getElem? (i := 53) rfl)
theorem lw154 : Cond.fieldLink RX2 37 "AttribArbor$Finder" "tree" "LAttribArbor$Tree;" ∈ LW := LW_1_in _ (List.mem_of_getElem? (i := 54) rfl)
theorem lw155 : Cond.fieldLink RX2 41 "AttribArbor$Finder" "ringValues" "[I" ∈ LW := LW_1_in _ (List.mem_of_getElem? (i := 55) rfl)
theorem lw156 : Cond.instantiable RX4 14 ∈ LW := LW_1_in _ (List.mem_of_getElem? (i := 56) rfl)
theorem lw157 : Cond.initialized RX4 ∈ LW := LW_1_in _ (List.mem_of_getElem? (i := 57) rfl)
theorem lw158 : Cond.instanceMethod yX4_init ∈ LW := LW_1_in _ (List.mem_of_getElem? (i := 58) rfl)
theorem lw159 : Cond.code yX11_slotOf cX11_slotOf 2 (some .int) ∈ LW := LW_1_in _ (List.mem_of_getElem? (i := 59) rfl)
theorem lw160 : Cond.code yX3_has cX3_has 2 (some .boolean) ∈ LW := LW_1_in _ (List.mem_of_getElem? (i := 60) rfl)
theorem lw161 : Cond.fieldLink RX3 15 "AttribArbor$Findings" "hangs" "[I" ∈ LW := LW_1_in _ (List.mem_of_getElem? (i := 61) rfl)
theorem lw162 : Cond.code yX3_valueOf cX3_valueOf 2 (some .int) ∈ LW := LW_1_in _ (List.mem_of_getElem? (i := 62) rfl)
theorem lw163 : Cond.fieldLink RX3 9 "AttribArbor$Findings" "values" "[I" ∈ LW := LW_1_in _ (List.mem_of_getElem? (i := 63) rfl)
theorem lw164 : Cond.code yX2_topFrame cX2_topFrame 2 (some (.object "AttribArbor$Frame")) ∈ LW := LW_1_in _ (List.mem_of_getElem? (i := 64) rfl)
theorem lw165 : Cond.fieldLink RX2 75 "AttribArbor$Finder" "depth" "I" ∈ LW := LW_1_in _ (List.mem_of_getElem? (i := 65) rfl)
theorem lw166 : Cond.code yX2_setOpen cX2_setOpen 3 none ∈ LW := LW_1_in _ (List.mem_of_getElem? (i := 66) rfl)
theorem lw167 : Cond.code yX11_bitOf cX11_bitOf 1 (some .int) ∈ LW := LW_1_in _ (List.mem_of_getElem? (i := 67) rfl)
theorem lw168 : Cond.code yX5_kindOf cX5_kindOf 2 (some .int) ∈ LW := LW_1_in _ (List.mem_of_getElem? (i := 68) rfl)
theorem lw169 : Cond.fieldLink RX5 68 "AttribArbor$Grammar" "attributes" "I" ∈ LW := LW_1_in _ (List.mem_of_getElem? (i := 69) rfl)
theorem lw170 : Cond.fieldLink RX5 45 "AttribArbor$Grammar" "kinds" "[I" ∈ LW := LW_1_in _ (List.mem_of_getElem? (i := 70) rfl)
theorem lw171 : Cond.code yX8_nowOf cX8_nowOf 2 (some .int) ∈ LW := LW_1_in _ (List.mem_of_getElem? (i := 71) rfl)
theorem lw172 : Cond.fieldLink RX8 21 "AttribArbor$Tree" "now" "[I" ∈ LW := LW_1_in _ (List.mem_of_getElem? (i := 72) rfl)
theorem lw173 : Cond.code yX4_settle cX4_settle 2 none ∈ LW := LW_1_in _ (List.mem_of_getElem? (i := 73) rfl)
theorem lw174 : Cond.fieldLink RX4 15 "AttribArbor$Frame" "answer" "I" ∈ LW := LW_1_in _ (List.mem_of_getElem? (i := 74) rfl)
theorem lw175 : Cond.fieldLink RX4 19 "AttribArbor$Frame" "settled" "Z" ∈ LW := LW_1_in _ (List.mem_of_getElem? (i := 75) rfl)
theorem lw176 : Cond.fieldLink RX2 130 "AttribArbor$Frame" "at" "I" ∈ LW := LW_1_in _ (List.mem_of_getElem? (i := 76) rfl)
theorem lw177 : Cond.fieldLink RX2 177 "AttribArbor$Tree" "count" "I" ∈ LW := LW_1_in _ (List.mem_of_getElem? (i := 77) rfl)
theorem lw178 : Cond.fieldLink RX2 152 "AttribArbor$Frame" "production" "I" ∈ LW := LW_1_in _ (List.mem_of_getElem? (i := 78) rfl)
theorem lw179 : Cond.fieldLink RX2 164 "AttribArbor$Frame" "hops" "I" ∈ LW := LW_1_in _ (List.mem_of_getElem? (i := 79) rfl)
theorem lw180 : Cond.fieldLink RX2 108 "AttribArbor$Frame" "attribute" "I" ∈ LW := LW_1_in _ (List.mem_of_getElem? (i := 80) rfl)
theorem lw181 : Cond.fieldLink RX2 183 "AttribArbor$Frame" "gift" "I" ∈ LW := LW_1_in _ (List.mem_of_getElem? (i := 81) rfl)
theorem lw182 : Cond.fieldLink RX2 186 "AttribArbor$Frame" "inSecond" "Z" ∈ LW := LW_1_in _ (List.mem_of_getElem? (i := 82) rfl)
theorem lw183 : Cond.fieldLink RX2 171 "AttribArbor$Frame" "next" "I" ∈ LW := LW_1_in _ (List.mem_of_getElem? (i := 83) rfl)
theorem lw184 : Cond.fieldLink RX2 117 "AttribArbor$Frame" "equation" "LAttribArbor$Equation;" ∈ LW := LW_1_in _ (List.mem_of_getElem? (i := 84) rfl)
theorem lw185 : Cond.fieldLink RX2 127 "AttribArbor$Frame" "sum" "I" ∈ LW := LW_1_in _ (List.mem_of_getElem? (i := 85) rfl)
theorem lw186 : Cond.methodLink RX2 149 yX8_nowOf ∈ LW := LW_1_in _ (List.mem_of_getElem? (i := 86) rfl)
theorem lw187 : Cond.instanceMethod yX8_nowOf ∈ LW := LW_1_in _ (List.mem_of_getElem? (i := 87) rfl)
theorem lw188 : Cond.selects RX8 yX8_nowOf yX8_nowOf ∈ LW := LW_1_in _ (List.mem_of_getElem? (i := 88) rfl)
theorem lw189 : Cond.initialized RX8 ∈ LW := LW_1_in _ (List.mem_of_getElem? (i := 89) rfl)
theorem lw190 : Cond.methodLink RX2 180 yX1_firstGiftOf ∈ LW := LW_1_in _ (List.mem_of_getElem? (i := 90) rfl)
theorem lw191 : Cond.instanceMethod yX1_firstGiftOf ∈ LW := LW_1_in _ (List.mem_of_getElem? (i := 91) rfl)
theorem lw192 : Cond.selects RX1 yX1_firstGiftOf yX1_firstGiftOf ∈ LW := LW_1_in _ (List.mem_of_getElem? (i := 92) rfl)
theorem lw193 : Cond.methodLink RX2 167 yX1_rowOf ∈ LW := LW_1_in _ (List.mem_of_getElem? (i := 93) rfl)
theorem lw194 : Cond.methodLink RX2 174 yX4_settle ∈ LW := LW_1_in _ (List.mem_of_getElem? (i := 94) rfl)
theorem lw195 : Cond.instanceMethod yX4_settle ∈ LW := LW_1_in _ (List.mem_of_getElem? (i := 95) rfl)
theorem lw196 : Cond.selects RX4 yX4_settle yX4_settle ∈ LW := LW_1_in _ (List.mem_of_getElem? (i := 96) rfl)
theorem lw197 : Cond.code yX2_beginGift cX2_beginGift 5 none ∈ LW := LW_1_in _ (List.mem_of_getElem? (i := 97) rfl)
theorem lw198 : Cond.code yX8_parentOf cX8_parentOf 2 (some .int) ∈ LW := LW_1_in _ (List.mem_of_getElem? (i := 98) rfl)
theorem lw199 : Cond.fieldLink RX8 9 "AttribArbor$Tree" "parents" "[I" ∈ LW := LW_1_in _ (List.mem_of_getElem? (i := 99) rfl)
theorem lw200 : Cond.code yX8_placeOf cX8_placeOf 2 (some .int) ∈ LW := LW_2_in _ (List.mem_of_getElem? (i := 0) rfl)
theorem lw201 : Cond.fieldLink RX8 15 "AttribArbor$Tree" "places" "[I" ∈ LW := LW_2_in _ (List.mem_of_getElem? (i := 1) rfl)
theorem lw202 : Cond.methodLink RX2 155 yX1_resolvedFor ∈ LW := LW_2_in _ (List.mem_of_getElem? (i := 2) rfl)
theorem lw203 : Cond.instanceMethod yX1_resolvedFor ∈ LW := LW_2_in _ (List.mem_of_getElem? (i := 3) rfl)
theorem lw204 : Cond.selects RX1 yX1_resolvedFor yX1_resolvedFor ∈ LW := LW_2_in _ (List.mem_of_getElem? (i := 4) rfl)
theorem lw205 : Cond.methodLink RX2 161 yX1_hopsFor ∈ LW := LW_2_in _ (List.mem_of_getElem? (i := 5) rfl)
theorem lw206 : Cond.instanceMethod yX1_hopsFor ∈ LW := LW_2_in _ (List.mem_of_getElem? (i := 6) rfl)
theorem lw207 : Cond.selects RX1 yX1_hopsFor yX1_hopsFor ∈ LW := LW_2_in _ (List.mem_of_getElem? (i := 7) rfl)
theorem lw208 : Cond.code yX2_beginEquation cX2_beginEquation 6 none ∈ LW := LW_2_in _ (List.mem_of_getElem? (i := 8) rfl)
theorem lw209 : Cond.fieldLink RX2 105 "AttribArbor$Frame" "node" "I" ∈ LW := LW_2_in _ (List.mem_of_getElem? (i := 9) rfl)
theorem lw210 : Cond.fieldLink RX2 114 "AttribArbor$Frame" "hangs" "I" ∈ LW := LW_2_in _ (List.mem_of_getElem? (i := 10) rfl)
theorem lw211 : Cond.fieldLink RX2 87 "AttribArbor$Frame" "settled" "Z" ∈ LW := LW_2_in _ (List.mem_of_getElem? (i := 11) rfl)
theorem lw212 : Cond.constant RX2 126 (1073741824) ∈ LW := LW_2_in _ (List.mem_of_getElem? (i := 12) rfl)
theorem lw213 : Cond.methodLink RX2 83 yX2_topFrame ∈ LW := LW_2_in _ (List.mem_of_getElem? (i := 13) rfl)
theorem lw214 : Cond.instanceMethod yX2_topFrame ∈ LW := LW_2_in _ (List.mem_of_getElem? (i := 14) rfl)
theorem lw215 : Cond.selects RX2 yX2_topFrame yX2_topFrame ∈ LW := LW_2_in _ (List.mem_of_getElem? (i := 15) rfl)
theorem lw216 : Cond.initialized RX2 ∈ LW := LW_2_in _ (List.mem_of_getElem? (i := 16) rfl)
theorem lw217 : Cond.methodLink RX2 101 yX2_setOpen ∈ LW := LW_2_in _ (List.mem_of_getElem? (i := 17) rfl)
theorem lw218 : Cond.instanceMethod yX2_setOpen ∈ LW := LW_2_in _ (List.mem_of_getElem? (i := 18) rfl)
theorem lw219 : Cond.selects RX2 yX2_setOpen yX2_setOpen ∈ LW := LW_2_in _ (List.mem_of_getElem? (i := 19) rfl)
theorem lw220 : Cond.static yX11_bitOf ∈ LW := LW_2_in _ (List.mem_of_getElem? (i := 20) rfl)
theorem lw221 : Cond.methodLink RX2 121 yX5_kindOf ∈ LW := LW_2_in _ (List.mem_of_getElem? (i := 21) rfl)
theorem lw222 : Cond.instanceMethod yX5_kindOf ∈ LW := LW_2_in _ (List.mem_of_getElem? (i := 22) rfl)
theorem lw223 : Cond.selects RX5 yX5_kindOf yX5_kindOf ∈ LW := LW_2_in _ (List.mem_of_getElem? (i := 23) rfl)
theorem lw224 : Cond.methodLink RX2 133 yX2_beginGift ∈ LW := LW_2_in _ (List.mem_of_getElem? (i := 24) rfl)
theorem lw225 : Cond.instanceMethod yX2_beginGift ∈ LW := LW_2_in _ (List.mem_of_getElem? (i := 25) rfl)
theorem lw226 : Cond.selects RX2 yX2_beginGift yX2_beginGift ∈ LW := LW_2_in _ (List.mem_of_getElem? (i := 26) rfl)
theorem lw227 : Cond.methodLink RX2 137 yX8_parentOf ∈ LW := LW_2_in _ (List.mem_of_getElem? (i := 27) rfl)
theorem lw228 : Cond.instanceMethod yX8_parentOf ∈ LW := LW_2_in _ (List.mem_of_getElem? (i := 28) rfl)
theorem lw229 : Cond.selects RX8 yX8_parentOf yX8_parentOf ∈ LW := LW_2_in _ (List.mem_of_getElem? (i := 29) rfl)
theorem lw230 : Cond.methodLink RX2 142 yX8_placeOf ∈ LW := LW_2_in _ (List.mem_of_getElem? (i := 30) rfl)
theorem lw231 : Cond.instanceMethod yX8_placeOf ∈ LW := LW_2_in _ (List.mem_of_getElem? (i := 31) rfl)
theorem lw232 : Cond.selects RX8 yX8_placeOf yX8_placeOf ∈ LW := LW_2_in _ (List.mem_of_getElem? (i := 32) rfl)
theorem lw233 : Cond.methodLink RX2 145 yX2_beginEquation ∈ LW := LW_2_in _ (List.mem_of_getElem? (i := 33) rfl)
theorem lw234 : Cond.instanceMethod yX2_beginEquation ∈ LW := LW_2_in _ (List.mem_of_getElem? (i := 34) rfl)
theorem lw235 : Cond.selects RX2 yX2_beginEquation yX2_beginEquation ∈ LW := LW_2_in _ (List.mem_of_getElem? (i := 35) rfl)
theorem lw236 : Cond.code yX2_begin cX2_begin 4 none ∈ LW := LW_2_in _ (List.mem_of_getElem? (i := 36) rfl)
theorem lw237 : Cond.code yX3_keep cX3_keep 4 none ∈ LW := LW_2_in _ (List.mem_of_getElem? (i := 37) rfl)
theorem lw238 : Cond.fieldLink RX3 28 "AttribArbor$Findings" "made" "I" ∈ LW := LW_2_in _ (List.mem_of_getElem? (i := 38) rfl)
theorem lw239 : Cond.fieldLink RX2 189 "AttribArbor$Frame" "answer" "I" ∈ LW := LW_2_in _ (List.mem_of_getElem? (i := 39) rfl)
theorem lw240 : Cond.fieldLink RX2 61 "AttribArbor$Finder" "book" "LAttribArbor$Findings;" ∈ LW := LW_2_in _ (List.mem_of_getElem? (i := 40) rfl)
theorem lw241 : Cond.static yX11_slotOf ∈ LW := LW_2_in _ (List.mem_of_getElem? (i := 41) rfl)
theorem lw242 : Cond.methodLink RX2 192 yX3_keep ∈ LW := LW_2_in _ (List.mem_of_getElem? (i := 42) rfl)
theorem lw243 : Cond.instanceMethod yX3_keep ∈ LW := LW_2_in _ (List.mem_of_getElem? (i := 43) rfl)
theorem lw244 : Cond.selects RX3 yX3_keep yX3_keep ∈ LW := LW_2_in _ (List.mem_of_getElem? (i := 44) rfl)
theorem lw245 : Cond.initialized RX3 ∈ LW := LW_2_in _ (List.mem_of_getElem? (i := 45) rfl)
theorem lw246 : Cond.code yX2_close cX2_close 4 none ∈ LW := LW_2_in _ (List.mem_of_getElem? (i := 46) rfl)
theorem lw247 : Cond.code yX2_enlist cX2_enlist 3 none ∈ LW := LW_2_in _ (List.mem_of_getElem? (i := 47) rfl)
theorem lw248 : Cond.fieldLink RX2 45 "AttribArbor$Finder" "listed" "I" ∈ LW := LW_2_in _ (List.mem_of_getElem? (i := 48) rfl)
theorem lw249 : Cond.code yX3_hangsOf cX3_hangsOf 2 (some .int) ∈ LW := LW_2_in _ (List.mem_of_getElem? (i := 49) rfl)
theorem lw250 : Cond.code yX2_isOpen cX2_isOpen 2 (some .boolean) ∈ LW := LW_2_in _ (List.mem_of_getElem? (i := 50) rfl)
theorem lw251 : Cond.fieldLink RX2 49 "AttribArbor$Finder" "listing" "Z" ∈ LW := LW_2_in _ (List.mem_of_getElem? (i := 51) rfl)
theorem lw252 : Cond.fieldLink RX2 98 "AttribArbor$Finder" "wanted" "I" ∈ LW := LW_2_in _ (List.mem_of_getElem? (i := 52) rfl)
theorem lw253 : Cond.methodLink RX2 249 yX2_enlist ∈ LW := LW_2_in _ (List.mem_of_getElem? (i := 53) rfl)
theorem lw254 : Cond.instanceMethod yX2_enlist ∈ LW := LW_2_in _ (List.mem_of_getElem? (i := 54) rfl)
theorem lw255 : Cond.selects RX2 yX2_enlist yX2_enlist ∈ LW := LW_2_in _ (List.mem_of_getElem? (i := 55) rfl)
theorem lw256 : Cond.methodLink RX2 65 yX3_has ∈ LW := LW_2_in _ (List.mem_of_getElem? (i := 56) rfl)
theorem lw257 : Cond.instanceMethod yX3_has ∈ LW := LW_2_in _ (List.mem_of_getElem? (i := 57) rfl)
theorem lw258 : Cond.selects RX3 yX3_has yX3_has ∈ LW := LW_2_in _ (List.mem_of_getElem? (i := 58) rfl)
theorem lw259 : Cond.methodLink RX2 256 yX3_hangsOf ∈ LW := LW_2_in _ (List.mem_of_getElem? (i := 59) rfl)
theorem lw260 : Cond.instanceMethod yX3_hangsOf ∈ LW := LW_2_in _ (List.mem_of_getElem? (i := 60) rfl)
theorem lw261 : Cond.selects RX3 yX3_hangsOf yX3_hangsOf ∈ LW := LW_2_in _ (List.mem_of_getElem? (i := 61) rfl)
theorem lw262 : Cond.methodLink RX2 71 yX3_valueOf ∈ LW := LW_2_in _ (List.mem_of_getElem? (i := 62) rfl)
theorem lw263 : Cond.instanceMethod yX3_valueOf ∈ LW := LW_2_in _ (List.mem_of_getElem? (i := 63) rfl)
theorem lw264 : Cond.selects RX3 yX3_valueOf yX3_valueOf ∈ LW := LW_2_in _ (List.mem_of_getElem? (i := 64) rfl)
theorem lw265 : Cond.methodLink RX2 259 yX2_isOpen ∈ LW := LW_2_in _ (List.mem_of_getElem? (i := 65) rfl)
theorem lw266 : Cond.instanceMethod yX2_isOpen ∈ LW := LW_2_in _ (List.mem_of_getElem? (i := 66) rfl)
theorem lw267 : Cond.selects RX2 yX2_isOpen yX2_isOpen ∈ LW := LW_2_in _ (List.mem_of_getElem? (i := 67) rfl)
theorem lw268 : Cond.code yX2_lookAt cX2_lookAt 5 (some .int) ∈ LW := LW_2_in _ (List.mem_of_getElem? (i := 68) rfl)
theorem lw269 : Cond.code yX8_childOf cX8_childOf 4 (some .int) ∈ LW := LW_2_in _ (List.mem_of_getElem? (i := 69) rfl)
theorem lw270 : Cond.fieldLink RX8 33 "AttribArbor$Tree" "count" "I" ∈ LW := LW_2_in _ (List.mem_of_getElem? (i := 70) rfl)
theorem lw271 : Cond.fieldLink RX8 24 "AttribArbor$Tree" "children" "[I" ∈ LW := LW_2_in _ (List.mem_of_getElem? (i := 71) rfl)
theorem lw272 : Cond.code yX2_childFor cX2_childFor 3 (some .int) ∈ LW := LW_2_in _ (List.mem_of_getElem? (i := 72) rfl)
theorem lw273 : Cond.methodLink RX2 236 yX10_childAt ∈ LW := LW_2_in _ (List.mem_of_getElem? (i := 73) rfl)
theorem lw274 : Cond.methodLink RX2 241 yX8_childOf ∈ LW := LW_2_in _ (List.mem_of_getElem? (i := 74) rfl)
theorem lw275 : Cond.instanceMethod yX8_childOf ∈ LW := LW_2_in _ (List.mem_of_getElem? (i := 75) rfl)
theorem lw276 : Cond.selects RX8 yX8_childOf yX8_childOf ∈ LW := LW_2_in _ (List.mem_of_getElem? (i := 76) rfl)
theorem lw277 : Cond.code yX8_readAsOf cX8_readAsOf 2 (some .int) ∈ LW := LW_2_in _ (List.mem_of_getElem? (i := 77) rfl)
theorem lw278 : Cond.fieldLink RX8 18 "AttribArbor$Tree" "readAs" "[I" ∈ LW := LW_2_in _ (List.mem_of_getElem? (i := 78) rfl)
theorem lw279 : Cond.code yX5_letterOf cX5_letterOf 4 (some .int) ∈ LW := LW_2_in _ (List.mem_of_getElem? (i := 79) rfl)
theorem lw280 : Cond.fieldLink RX5 27 "AttribArbor$Grammar" "letterCounts" "[I" ∈ LW := LW_2_in _ (List.mem_of_getElem? (i := 80) rfl)
theorem lw281 : Cond.fieldLink RX5 30 "AttribArbor$Grammar" "letters" "[I" ∈ LW := LW_2_in _ (List.mem_of_getElem? (i := 81) rfl)
theorem lw282 : Cond.code yX2_letterFor cX2_letterFor 3 (some .int) ∈ LW := LW_2_in _ (List.mem_of_getElem? (i := 82) rfl)
theorem lw283 : Cond.methodLink RX2 243 yX8_readAsOf ∈ LW := LW_2_in _ (List.mem_of_getElem? (i := 83) rfl)
theorem lw284 : Cond.instanceMethod yX8_readAsOf ∈ LW := LW_2_in _ (List.mem_of_getElem? (i := 84) rfl)
theorem lw285 : Cond.selects RX8 yX8_readAsOf yX8_readAsOf ∈ LW := LW_2_in _ (List.mem_of_getElem? (i := 85) rfl)
theorem lw286 : Cond.methodLink RX2 246 yX5_letterOf ∈ LW := LW_2_in _ (List.mem_of_getElem? (i := 86) rfl)
theorem lw287 : Cond.instanceMethod yX5_letterOf ∈ LW := LW_2_in _ (List.mem_of_getElem? (i := 87) rfl)
theorem lw288 : Cond.selects RX5 yX5_letterOf yX5_letterOf ∈ LW := LW_2_in _ (List.mem_of_getElem? (i := 88) rfl)
theorem lw289 : Cond.code yX8_putOf cX8_putOf 4 (some .int) ∈ LW := LW_2_in _ (List.mem_of_getElem? (i := 89) rfl)
theorem lw290 : Cond.fieldLink RX8 27 "AttribArbor$Tree" "puts" "[I" ∈ LW := LW_2_in _ (List.mem_of_getElem? (i := 90) rfl)
theorem lw291 : Cond.code yX4_heldFor cX4_heldFor 2 (some .int) ∈ LW := LW_2_in _ (List.mem_of_getElem? (i := 91) rfl)
theorem lw292 : Cond.methodLink RX2 214 yX0_numberOf ∈ LW := LW_2_in _ (List.mem_of_getElem? (i := 92) rfl)
theorem lw293 : Cond.instanceMethod yX0_numberOf ∈ LW := LW_2_in _ (List.mem_of_getElem? (i := 93) rfl)
theorem lw294 : Cond.selects RX0 yX0_numberOf yX0_numberOf ∈ LW := LW_2_in _ (List.mem_of_getElem? (i := 94) rfl)
theorem lw295 : Cond.methodLink RX2 219 yX0_kindOf ∈ LW := LW_2_in _ (List.mem_of_getElem? (i := 95) rfl)
theorem lw296 : Cond.instanceMethod yX0_kindOf ∈ LW := LW_2_in _ (List.mem_of_getElem? (i := 96) rfl)
theorem lw297 : Cond.selects RX0 yX0_kindOf yX0_kindOf ∈ LW := LW_2_in _ (List.mem_of_getElem? (i := 97) rfl)
theorem lw298 : Cond.methodLink RX2 196 yX2_lookAt ∈ LW := LW_2_in _ (List.mem_of_getElem? (i := 98) rfl)
theorem lw299 : Cond.instanceMethod yX2_lookAt ∈ LW := LW_2_in _ (List.mem_of_getElem? (i := 99) rfl)
theorem lw300 : Cond.selects RX2 yX2_lookAt yX2_lookAt ∈ LW := LW_3_in _ (List.mem_of_getElem? (i := 0) rfl)
theorem lw301 : Cond.methodLink RX2 220 yX0_childOf ∈ LW := LW_3_in _ (List.mem_of_getElem? (i := 1) rfl)
theorem lw302 : Cond.instanceMethod yX0_childOf ∈ LW := LW_3_in _ (List.mem_of_getElem? (i := 2) rfl)
theorem lw303 : Cond.selects RX0 yX0_childOf yX0_childOf ∈ LW := LW_3_in _ (List.mem_of_getElem? (i := 3) rfl)
theorem lw304 : Cond.methodLink RX2 223 yX2_childFor ∈ LW := LW_3_in _ (List.mem_of_getElem? (i := 4) rfl)
theorem lw305 : Cond.instanceMethod yX2_childFor ∈ LW := LW_3_in _ (List.mem_of_getElem? (i := 5) rfl)
theorem lw306 : Cond.selects RX2 yX2_childFor yX2_childFor ∈ LW := LW_3_in _ (List.mem_of_getElem? (i := 6) rfl)
theorem lw307 : Cond.methodLink RX2 227 yX2_letterFor ∈ LW := LW_3_in _ (List.mem_of_getElem? (i := 7) rfl)
theorem lw308 : Cond.instanceMethod yX2_letterFor ∈ LW := LW_3_in _ (List.mem_of_getElem? (i := 8) rfl)
theorem lw309 : Cond.selects RX2 yX2_letterFor yX2_letterFor ∈ LW := LW_3_in _ (List.mem_of_getElem? (i := 9) rfl)
theorem lw310 : Cond.methodLink RX2 230 yX8_putOf ∈ LW := LW_3_in _ (List.mem_of_getElem? (i := 10) rfl)
theorem lw311 : Cond.instanceMethod yX8_putOf ∈ LW := LW_3_in _ (List.mem_of_getElem? (i := 11) rfl)
theorem lw312 : Cond.selects RX8 yX8_putOf yX8_putOf ∈ LW := LW_3_in _ (List.mem_of_getElem? (i := 12) rfl)
theorem lw313 : Cond.methodLink RX2 233 yX4_heldFor ∈ LW := LW_3_in _ (List.mem_of_getElem? (i := 13) rfl)
theorem lw314 : Cond.instanceMethod yX4_heldFor ∈ LW := LW_3_in _ (List.mem_of_getElem? (i := 14) rfl)
theorem lw315 : Cond.selects RX4 yX4_heldFor yX4_heldFor ∈ LW := LW_3_in _ (List.mem_of_getElem? (i := 15) rfl)
theorem lw316 : Cond.code yX2_lookAtStep cX2_lookAtStep 6 (some .int) ∈ LW := LW_3_in _ (List.mem_of_getElem? (i := 16) rfl)
theorem lw317 : Cond.code yX4_joined cX4_joined 3 (some .int) ∈ LW := LW_3_in _ (List.mem_of_getElem? (i := 17) rfl)
theorem lw318 : Cond.fieldLink RX4 29 "AttribArbor$Frame" "next" "I" ∈ LW := LW_3_in _ (List.mem_of_getElem? (i := 18) rfl)
theorem lw319 : Cond.methodLink RX4 36 yX0_kindOf ∈ LW := LW_3_in _ (List.mem_of_getElem? (i := 19) rfl)
theorem lw320 : Cond.methodLink RX4 39 yX0_roleOf ∈ LW := LW_3_in _ (List.mem_of_getElem? (i := 20) rfl)
theorem lw321 : Cond.instanceMethod yX0_roleOf ∈ LW := LW_3_in _ (List.mem_of_getElem? (i := 21) rfl)
theorem lw322 : Cond.selects RX0 yX0_roleOf yX0_roleOf ∈ LW := LW_3_in _ (List.mem_of_getElem? (i := 22) rfl)
theorem lw323 : Cond.methodLink RX4 42 yX0_startOf ∈ LW := LW_3_in _ (List.mem_of_getElem? (i := 23) rfl)
theorem lw324 : Cond.instanceMethod yX0_startOf ∈ LW := LW_3_in _ (List.mem_of_getElem? (i := 24) rfl)
theorem lw325 : Cond.selects RX0 yX0_startOf yX0_startOf ∈ LW := LW_3_in _ (List.mem_of_getElem? (i := 25) rfl)
theorem lw326 : Cond.methodLink RX4 49 yX4_heldFor ∈ LW := LW_3_in _ (List.mem_of_getElem? (i := 26) rfl)
theorem lw327 : Cond.methodLink RX4 52 yX4_joined ∈ LW := LW_3_in _ (List.mem_of_getElem? (i := 27) rfl)
theorem lw328 : Cond.static yX4_joined ∈ LW := LW_3_in _ (List.mem_of_getElem? (i := 28) rfl)
theorem lw329 : Cond.code yX4_takeUp cX4_takeUp 6 (some .int) ∈ LW := LW_3_in _ (List.mem_of_getElem? (i := 29) rfl)
theorem lw330 : Cond.methodLink RX4 23 yX0_userOf ∈ LW := LW_3_in _ (List.mem_of_getElem? (i := 30) rfl)
theorem lw331 : Cond.instanceMethod yX0_userOf ∈ LW := LW_3_in _ (List.mem_of_getElem? (i := 31) rfl)
theorem lw332 : Cond.selects RX0 yX0_userOf yX0_userOf ∈ LW := LW_3_in _ (List.mem_of_getElem? (i := 32) rfl)
theorem lw333 : Cond.methodLink RX4 32 yX4_takeUp ∈ LW := LW_3_in _ (List.mem_of_getElem? (i := 33) rfl)
theorem lw334 : Cond.instanceMethod yX4_takeUp ∈ LW := LW_3_in _ (List.mem_of_getElem? (i := 34) rfl)
theorem lw335 : Cond.selects RX4 yX4_takeUp yX4_takeUp ∈ LW := LW_3_in _ (List.mem_of_getElem? (i := 35) rfl)
theorem lw336 : Cond.code yX4_climb cX4_climb 8 (some .int) ∈ LW := LW_3_in _ (List.mem_of_getElem? (i := 36) rfl)
theorem lw337 : Cond.methodLink RX2 211 yX1_nextGiftOf ∈ LW := LW_3_in _ (List.mem_of_getElem? (i := 37) rfl)
theorem lw338 : Cond.instanceMethod yX1_nextGiftOf ∈ LW := LW_3_in _ (List.mem_of_getElem? (i := 38) rfl)
theorem lw339 : Cond.selects RX1 yX1_nextGiftOf yX1_nextGiftOf ∈ LW := LW_3_in _ (List.mem_of_getElem? (i := 39) rfl)
theorem lw340 : Cond.code yX2_takeWhole cX2_takeWhole 3 none ∈ LW := LW_3_in _ (List.mem_of_getElem? (i := 40) rfl)
theorem lw341 : Cond.methodLink RX2 200 yX2_lookAtStep ∈ LW := LW_3_in _ (List.mem_of_getElem? (i := 41) rfl)
theorem lw342 : Cond.instanceMethod yX2_lookAtStep ∈ LW := LW_3_in _ (List.mem_of_getElem? (i := 42) rfl)
theorem lw343 : Cond.selects RX2 yX2_lookAtStep yX2_lookAtStep ∈ LW := LW_3_in _ (List.mem_of_getElem? (i := 43) rfl)
theorem lw344 : Cond.methodLink RX2 204 yX4_climb ∈ LW := LW_3_in _ (List.mem_of_getElem? (i := 44) rfl)
theorem lw345 : Cond.instanceMethod yX4_climb ∈ LW := LW_3_in _ (List.mem_of_getElem? (i := 45) rfl)
theorem lw346 : Cond.selects RX4 yX4_climb yX4_climb ∈ LW := LW_3_in _ (List.mem_of_getElem? (i := 46) rfl)
theorem lw347 : Cond.methodLink RX2 208 yX2_takeWhole ∈ LW := LW_3_in _ (List.mem_of_getElem? (i := 47) rfl)
theorem lw348 : Cond.instanceMethod yX2_takeWhole ∈ LW := LW_3_in _ (List.mem_of_getElem? (i := 48) rfl)
theorem lw349 : Cond.selects RX2 yX2_takeWhole yX2_takeWhole ∈ LW := LW_3_in _ (List.mem_of_getElem? (i := 49) rfl)
theorem lw350 : Cond.code yX2_goOn cX2_goOn 6 (some .boolean) ∈ LW := LW_3_in _ (List.mem_of_getElem? (i := 50) rfl)
theorem lw351 : Cond.constant RX2 82 (10000000) ∈ LW := LW_3_in _ (List.mem_of_getElem? (i := 51) rfl)
theorem lw352 : Cond.methodLink RX2 78 yX2_begin ∈ LW := LW_3_in _ (List.mem_of_getElem? (i := 52) rfl)
theorem lw353 : Cond.instanceMethod yX2_begin ∈ LW := LW_3_in _ (List.mem_of_getElem? (i := 53) rfl)
theorem lw354 : Cond.selects RX2 yX2_begin yX2_begin ∈ LW := LW_3_in _ (List.mem_of_getElem? (i := 54) rfl)
theorem lw355 : Cond.methodLink RX2 90 yX2_close ∈ LW := LW_3_in _ (List.mem_of_getElem? (i := 55) rfl)
theorem lw356 : Cond.instanceMethod yX2_close ∈ LW := LW_3_in _ (List.mem_of_getElem? (i := 56) rfl)
theorem lw357 : Cond.selects RX2 yX2_close yX2_close ∈ LW := LW_3_in _ (List.mem_of_getElem? (i := 57) rfl)
theorem lw358 : Cond.methodLink RX2 94 yX2_goOn ∈ LW := LW_3_in _ (List.mem_of_getElem? (i := 58) rfl)
theorem lw359 : Cond.instanceMethod yX2_goOn ∈ LW := LW_3_in _ (List.mem_of_getElem? (i := 59) rfl)
theorem lw360 : Cond.selects RX2 yX2_goOn yX2_goOn ∈ LW := LW_3_in _ (List.mem_of_getElem? (i := 60) rfl)
theorem lw361 : Cond.code yX2_find cX2_find 7 (some .int) ∈ LW := LW_3_in _ (List.mem_of_getElem? (i := 61) rfl)
theorem lw362 : Cond.methodLink RX2 53 yX2_find ∈ LW := LW_3_in _ (List.mem_of_getElem? (i := 62) rfl)
theorem lw363 : Cond.instanceMethod yX2_find ∈ LW := LW_3_in _ (List.mem_of_getElem? (i := 63) rfl)
theorem lw364 : Cond.selects RX2 yX2_find yX2_find ∈ LW := LW_3_in _ (List.mem_of_getElem? (i := 64) rfl)
theorem lw365 : Cond.code yX2_findListing cX2_findListing 4 none ∈ LW := LW_3_in _ (List.mem_of_getElem? (i := 65) rfl)
theorem lw366 : Cond.code yX3_init cX3_init 1 none ∈ LW := LW_3_in _ (List.mem_of_getElem? (i := 66) rfl)
theorem lw367 : Cond.methodLink RX3 3 objectInit ∈ LW := LW_3_in _ (List.mem_of_getElem? (i := 67) rfl)
theorem lw368 : Cond.fieldLink RX3 18 "AttribArbor$Findings" "nextValues" "[I" ∈ LW := LW_3_in _ (List.mem_of_getElem? (i := 68) rfl)
theorem lw369 : Cond.fieldLink RX3 21 "AttribArbor$Findings" "nextHangs" "[I" ∈ LW := LW_3_in _ (List.mem_of_getElem? (i := 69) rfl)
theorem lw370 : Cond.code yX3_clear cX3_clear 1 none ∈ LW := LW_3_in _ (List.mem_of_getElem? (i := 70) rfl)
theorem lw371 : Cond.code yX3_drop cX3_drop 3 none ∈ LW := LW_3_in _ (List.mem_of_getElem? (i := 71) rfl)
theorem lw372 : Cond.code yX8_hasNode cX8_hasNode 2 (some .boolean) ∈ LW := LW_3_in _ (List.mem_of_getElem? (i := 72) rfl)
theorem lw373 : Cond.code yX8_heirOf cX8_heirOf 2 (some .int) ∈ LW := LW_3_in _ (List.mem_of_getElem? (i := 73) rfl)
theorem lw374 : Cond.fieldLink RX8 30 "AttribArbor$Tree" "heirs" "[I" ∈ LW := LW_3_in _ (List.mem_of_getElem? (i := 74) rfl)
theorem lw375 : Cond.methodLink RX8 44 yX8_hasNode ∈ LW := LW_3_in _ (List.mem_of_getElem? (i := 75) rfl)
theorem lw376 : Cond.instanceMethod yX8_hasNode ∈ LW := LW_3_in _ (List.mem_of_getElem? (i := 76) rfl)
theorem lw377 : Cond.selects RX8 yX8_hasNode yX8_hasNode ∈ LW := LW_3_in _ (List.mem_of_getElem? (i := 77) rfl)
theorem lw378 : Cond.code yX3_valueInHeirs cX3_valueInHeirs 2 (some .int) ∈ LW := LW_3_in _ (List.mem_of_getElem? (i := 78) rfl)
theorem lw379 : Cond.methodLink RX3 40 yX8_heirOf ∈ LW := LW_3_in _ (List.mem_of_getElem? (i := 79) rfl)
theorem lw380 : Cond.instanceMethod yX8_heirOf ∈ LW := LW_3_in _ (List.mem_of_getElem? (i := 80) rfl)
theorem lw381 : Cond.selects RX8 yX8_heirOf yX8_heirOf ∈ LW := LW_3_in _ (List.mem_of_getElem? (i := 81) rfl)
theorem lw382 : Cond.code yX3_bitsInHeirs cX3_bitsInHeirs 4 (some .int) ∈ LW := LW_3_in _ (List.mem_of_getElem? (i := 82) rfl)
theorem lw383 : Cond.methodLink RX3 46 yX3_has ∈ LW := LW_3_in _ (List.mem_of_getElem? (i := 83) rfl)
theorem lw384 : Cond.methodLink RX3 54 yX3_valueOf ∈ LW := LW_3_in _ (List.mem_of_getElem? (i := 84) rfl)
theorem lw385 : Cond.methodLink RX3 57 yX3_valueInHeirs ∈ LW := LW_3_in _ (List.mem_of_getElem? (i := 85) rfl)
theorem lw386 : Cond.static yX3_valueInHeirs ∈ LW := LW_3_in _ (List.mem_of_getElem? (i := 86) rfl)
theorem lw387 : Cond.methodLink RX3 61 yX3_hangsOf ∈ LW := LW_3_in _ (List.mem_of_getElem? (i := 87) rfl)
theorem lw388 : Cond.methodLink RX3 64 yX3_bitsInHeirs ∈ LW := LW_3_in _ (List.mem_of_getElem? (i := 88) rfl)
theorem lw389 : Cond.static yX3_bitsInHeirs ∈ LW := LW_3_in _ (List.mem_of_getElem? (i := 89) rfl)
theorem lw390 : Cond.code yX3_follow cX3_follow 5 none ∈ LW := LW_3_in _ (List.mem_of_getElem? (i := 90) rfl)
theorem lw391 : Cond.code yX5_init cX5_init 1 none ∈ LW := LW_3_in _ (List.mem_of_getElem? (i := 91) rfl)
theorem lw392 : Cond.methodLink RX5 3 objectInit ∈ LW := LW_3_in _ (List.mem_of_getElem? (i := 92) rfl)
theorem lw393 : Cond.fieldLink RX5 9 "AttribArbor$Grammar" "heads" "[I" ∈ LW := LW_3_in _ (List.mem_of_getElem? (i := 93) rfl)
theorem lw394 : Cond.fieldLink RX5 15 "AttribArbor$Grammar" "lengths" "[I" ∈ LW := LW_3_in _ (List.mem_of_getElem? (i := 94) rfl)
theorem lw395 : Cond.fieldLink RX5 18 "AttribArbor$Grammar" "symbols" "[I" ∈ LW := LW_3_in _ (List.mem_of_getElem? (i := 95) rfl)
theorem lw396 : Cond.fieldLink RX5 24 "AttribArbor$Grammar" "childHeads" "[I" ∈ LW := LW_3_in _ (List.mem_of_getElem? (i := 96) rfl)
theorem lw397 : Cond.fieldLink RX5 39 "AttribArbor$Grammar" "ruleAttributes" "[I" ∈ LW := LW_3_in _ (List.mem_of_getElem? (i := 97) rfl)
theorem lw398 : Cond.fieldLink RX5 42 "AttribArbor$Grammar" "ruleOthers" "[I" ∈ LW := LW_3_in _ (List.mem_of_getElem? (i := 98) rfl)
theorem lw399 : Cond.code yX5_appendTo cX5_appendTo 5 none ∈ LW := LW_3_in _ (List.mem_of_getElem? (i := 99) rfl)
theorem lw400 : Cond.code yX5_appendSymbol cX5_appendSymbol 3 none ∈ LW := LW_4_in _ (List.mem_of_getElem? (i := 0) rfl)
theorem lw401 : Cond.methodLink RX5 60 yX5_appendTo ∈ LW := LW_4_in _ (List.mem_of_getElem? (i := 1) rfl)
theorem lw402 : Cond.static yX5_appendTo ∈ LW := LW_4_in _ (List.mem_of_getElem? (i := 2) rfl)
theorem lw403 : Cond.code yX5_addProduction cX5_addProduction 6 (some .int) ∈ LW := LW_4_in _ (List.mem_of_getElem? (i := 3) rfl)
theorem lw404 : Cond.fieldLink RX5 48 "AttribArbor$Grammar" "productions" "I" ∈ LW := LW_4_in _ (List.mem_of_getElem? (i := 4) rfl)
theorem lw405 : Cond.methodLink RX5 56 yX5_appendSymbol ∈ LW := LW_4_in _ (List.mem_of_getElem? (i := 5) rfl)
theorem lw406 : Cond.instanceMethod yX5_appendSymbol ∈ LW := LW_4_in _ (List.mem_of_getElem? (i := 6) rfl)
theorem lw407 : Cond.selects RX5 yX5_appendSymbol yX5_appendSymbol ∈ LW := LW_4_in _ (List.mem_of_getElem? (i := 7) rfl)
theorem lw408 : Cond.code yX5_addAttribute cX5_addAttribute 3 (some .int) ∈ LW := LW_4_in _ (List.mem_of_getElem? (i := 8) rfl)
theorem lw409 : Cond.code yX5_tellForward cX5_tellForward 7 (some .int) ∈ LW := LW_4_in _ (List.mem_of_getElem? (i := 9) rfl)
theorem lw410 : Cond.methodLink RX5 71 yX5_forwardOf ∈ LW := LW_4_in _ (List.mem_of_getElem? (i := 10) rfl)
theorem lw411 : Cond.code yX5_ruleOtherOf cX5_ruleOtherOf 2 (some .int) ∈ LW := LW_4_in _ (List.mem_of_getElem? (i := 11) rfl)
theorem lw412 : Cond.code yX5_tellRule cX5_tellRule 5 (some .int) ∈ LW := LW_4_in _ (List.mem_of_getElem? (i := 12) rfl)
theorem lw413 : Cond.methodLink RX5 75 yX5_ruleOtherOf ∈ LW := LW_4_in _ (List.mem_of_getElem? (i := 13) rfl)
theorem lw414 : Cond.instanceMethod yX5_ruleOtherOf ∈ LW := LW_4_in _ (List.mem_of_getElem? (i := 14) rfl)
theorem lw415 : Cond.selects RX5 yX5_ruleOtherOf yX5_ruleOtherOf ∈ LW := LW_4_in _ (List.mem_of_getElem? (i := 15) rfl)
theorem lw416 : Cond.code yX5_hasProduction cX5_hasProduction 2 (some .boolean) ∈ LW := LW_4_in _ (List.mem_of_getElem? (i := 16) rfl)
theorem lw417 : Cond.code yX5_hasAttribute cX5_hasAttribute 2 (some .boolean) ∈ LW := LW_4_in _ (List.mem_of_getElem? (i := 17) rfl)
theorem lw418 : Cond.code yX5_headOf cX5_headOf 2 (some .int) ∈ LW := LW_4_in _ (List.mem_of_getElem? (i := 18) rfl)
theorem lw419 : Cond.code yX5_lengthOf cX5_lengthOf 2 (some .int) ∈ LW := LW_4_in _ (List.mem_of_getElem? (i := 19) rfl)
theorem lw420 : Cond.code yX5_symbolOf cX5_symbolOf 4 (some .int) ∈ LW := LW_4_in _ (List.mem_of_getElem? (i := 20) rfl)
theorem lw421 : Cond.code yX5_childHeadOf cX5_childHeadOf 4 (some .int) ∈ LW := LW_4_in _ (List.mem_of_getElem? (i := 21) rfl)
theorem lw422 : Cond.methodLink RX5 78 yX5_childCountOf ∈ LW := LW_4_in _ (List.mem_of_getElem? (i := 22) rfl)
theorem lw423 : Cond.code yX5_ruleAttributeOf cX5_ruleAttributeOf 2 (some .int) ∈ LW := LW_4_in _ (List.mem_of_getElem? (i := 23) rfl)
theorem lw424 : Cond.code yX5_isAlikeInShape cX5_isAlikeInShape 5 (some .boolean) ∈ LW := LW_4_in _ (List.mem_of_getElem? (i := 24) rfl)
theorem lw425 : Cond.methodLink RX5 81 yX5_headOf ∈ LW := LW_4_in _ (List.mem_of_getElem? (i := 25) rfl)
theorem lw426 : Cond.instanceMethod yX5_headOf ∈ LW := LW_4_in _ (List.mem_of_getElem? (i := 26) rfl)
theorem lw427 : Cond.selects RX5 yX5_headOf yX5_headOf ∈ LW := LW_4_in _ (List.mem_of_getElem? (i := 27) rfl)
theorem lw428 : Cond.methodLink RX5 84 yX5_childHeadOf ∈ LW := LW_4_in _ (List.mem_of_getElem? (i := 28) rfl)
theorem lw429 : Cond.instanceMethod yX5_childHeadOf ∈ LW := LW_4_in _ (List.mem_of_getElem? (i := 29) rfl)
theorem lw430 : Cond.selects RX5 yX5_childHeadOf yX5_childHeadOf ∈ LW := LW_4_in _ (List.mem_of_getElem? (i := 30) rfl)
theorem lw431 : Cond.code yX6_init cX6_init 4 none ∈ LW := LW_4_in _ (List.mem_of_getElem? (i := 31) rfl)
theorem lw432 : Cond.methodLink RX6 3 objectInit ∈ LW := LW_4_in _ (List.mem_of_getElem? (i := 32) rfl)
theorem lw433 : Cond.fieldLink RX6 11 "AttribArbor$HangGraph" "hangs" "[I" ∈ LW := LW_4_in _ (List.mem_of_getElem? (i := 33) rfl)
theorem lw434 : Cond.fieldLink RX6 15 "AttribArbor$HangGraph" "relations" "[I" ∈ LW := LW_4_in _ (List.mem_of_getElem? (i := 34) rfl)
theorem lw435 : Cond.fieldLink RX6 18 "AttribArbor$HangGraph" "grammar" "LAttribArbor$Grammar;" ∈ LW := LW_4_in _ (List.mem_of_getElem? (i := 35) rfl)
theorem lw436 : Cond.fieldLink RX6 22 "AttribArbor$HangGraph" "equations" "LAttribArbor$Equations;" ∈ LW := LW_4_in _ (List.mem_of_getElem? (i := 36) rfl)
theorem lw437 : Cond.fieldLink RX6 26 "AttribArbor$HangGraph" "views" "LAttribArbor$Views;" ∈ LW := LW_4_in _ (List.mem_of_getElem? (i := 37) rfl)
theorem lw438 : Cond.code yX6_isOfKind cX6_isOfKind 3 (some .boolean) ∈ LW := LW_4_in _ (List.mem_of_getElem? (i := 38) rfl)
theorem lw439 : Cond.methodLink RX6 60 yX5_kindOf ∈ LW := LW_4_in _ (List.mem_of_getElem? (i := 39) rfl)
theorem lw440 : Cond.code yX6_cornerOf cX6_cornerOf 2 (some .int) ∈ LW := LW_4_in _ (List.mem_of_getElem? (i := 40) rfl)
theorem lw441 : Cond.code yX6_hang cX6_hang 3 none ∈ LW := LW_4_in _ (List.mem_of_getElem? (i := 41) rfl)
theorem lw442 : Cond.fieldLink RX6 130 "AttribArbor$Equation" "size" "I" ∈ LW := LW_4_in _ (List.mem_of_getElem? (i := 42) rfl)
theorem lw443 : Cond.methodLink RX6 133 yX0_kindOf ∈ LW := LW_4_in _ (List.mem_of_getElem? (i := 43) rfl)
theorem lw444 : Cond.methodLink RX6 134 yX0_numberOf ∈ LW := LW_4_in _ (List.mem_of_getElem? (i := 44) rfl)
theorem lw445 : Cond.methodLink RX6 137 yX0_childOf ∈ LW := LW_4_in _ (List.mem_of_getElem? (i := 45) rfl)
theorem lw446 : Cond.methodLink RX6 140 yX10_childAt ∈ LW := LW_4_in _ (List.mem_of_getElem? (i := 46) rfl)
theorem lw447 : Cond.methodLink RX6 64 yX6_isOfKind ∈ LW := LW_4_in _ (List.mem_of_getElem? (i := 47) rfl)
theorem lw448 : Cond.instanceMethod yX6_isOfKind ∈ LW := LW_4_in _ (List.mem_of_getElem? (i := 48) rfl)
theorem lw449 : Cond.selects RX6 yX6_isOfKind yX6_isOfKind ∈ LW := LW_4_in _ (List.mem_of_getElem? (i := 49) rfl)
theorem lw450 : Cond.initialized RX6 ∈ LW := LW_4_in _ (List.mem_of_getElem? (i := 50) rfl)
theorem lw451 : Cond.methodLink RX6 82 yX6_cornerOf ∈ LW := LW_4_in _ (List.mem_of_getElem? (i := 51) rfl)
theorem lw452 : Cond.static yX6_cornerOf ∈ LW := LW_4_in _ (List.mem_of_getElem? (i := 52) rfl)
theorem lw453 : Cond.methodLink RX6 86 yX6_hang ∈ LW := LW_4_in _ (List.mem_of_getElem? (i := 53) rfl)
theorem lw454 : Cond.instanceMethod yX6_hang ∈ LW := LW_4_in _ (List.mem_of_getElem? (i := 54) rfl)
theorem lw455 : Cond.selects RX6 yX6_hang yX6_hang ∈ LW := LW_4_in _ (List.mem_of_getElem? (i := 55) rfl)
theorem lw456 : Cond.code yX6_drawSteps cX6_drawSteps 10 none ∈ LW := LW_4_in _ (List.mem_of_getElem? (i := 56) rfl)
theorem lw457 : Cond.fieldLink RX6 110 "AttribArbor$Equations" "count" "I" ∈ LW := LW_4_in _ (List.mem_of_getElem? (i := 57) rfl)
theorem lw458 : Cond.methodLink RX6 93 yX1_resolvedFor ∈ LW := LW_4_in _ (List.mem_of_getElem? (i := 58) rfl)
theorem lw459 : Cond.methodLink RX6 99 yX1_hopsFor ∈ LW := LW_4_in _ (List.mem_of_getElem? (i := 59) rfl)
theorem lw460 : Cond.methodLink RX6 102 yX10_productionAt ∈ LW := LW_4_in _ (List.mem_of_getElem? (i := 60) rfl)
theorem lw461 : Cond.methodLink RX6 107 yX10_targetAt ∈ LW := LW_4_in _ (List.mem_of_getElem? (i := 61) rfl)
theorem lw462 : Cond.methodLink RX6 113 yX1_rowOf ∈ LW := LW_4_in _ (List.mem_of_getElem? (i := 62) rfl)
theorem lw463 : Cond.methodLink RX6 117 yX1_counts ∈ LW := LW_4_in _ (List.mem_of_getElem? (i := 63) rfl)
theorem lw464 : Cond.methodLink RX6 121 yX0_isFor ∈ LW := LW_4_in _ (List.mem_of_getElem? (i := 64) rfl)
theorem lw465 : Cond.instanceMethod yX0_isFor ∈ LW := LW_4_in _ (List.mem_of_getElem? (i := 65) rfl)
theorem lw466 : Cond.selects RX0 yX0_isFor yX0_isFor ∈ LW := LW_4_in _ (List.mem_of_getElem? (i := 66) rfl)
theorem lw467 : Cond.methodLink RX6 126 yX6_drawSteps ∈ LW := LW_4_in _ (List.mem_of_getElem? (i := 67) rfl)
theorem lw468 : Cond.instanceMethod yX6_drawSteps ∈ LW := LW_4_in _ (List.mem_of_getElem? (i := 68) rfl)
theorem lw469 : Cond.selects RX6 yX6_drawSteps yX6_drawSteps ∈ LW := LW_4_in _ (List.mem_of_getElem? (i := 69) rfl)
theorem lw470 : Cond.code yX6_drawEquations cX6_drawEquations 9 (some .boolean) ∈ LW := LW_4_in _ (List.mem_of_getElem? (i := 70) rfl)
theorem lw471 : Cond.code yX6_hasBit cX6_hasBit 2 (some .boolean) ∈ LW := LW_4_in _ (List.mem_of_getElem? (i := 71) rfl)
theorem lw472 : Cond.methodLink RX6 68 yX6_drawEquations ∈ LW := LW_4_in _ (List.mem_of_getElem? (i := 72) rfl)
theorem lw473 : Cond.instanceMethod yX6_drawEquations ∈ LW := LW_4_in _ (List.mem_of_getElem? (i := 73) rfl)
theorem lw474 : Cond.selects RX6 yX6_drawEquations yX6_drawEquations ∈ LW := LW_4_in _ (List.mem_of_getElem? (i := 74) rfl)
theorem lw475 : Cond.methodLink RX6 90 yX5_childHeadOf ∈ LW := LW_4_in _ (List.mem_of_getElem? (i := 75) rfl)
theorem lw476 : Cond.methodLink RX6 79 yX6_hasBit ∈ LW := LW_4_in _ (List.mem_of_getElem? (i := 76) rfl)
theorem lw477 : Cond.static yX6_hasBit ∈ LW := LW_4_in _ (List.mem_of_getElem? (i := 77) rfl)
theorem lw478 : Cond.code yX6_drawChild cX6_drawChild 8 none ∈ LW := LW_4_in _ (List.mem_of_getElem? (i := 78) rfl)
theorem lw479 : Cond.methodLink RX6 72 yX5_childCountOf ∈ LW := LW_4_in _ (List.mem_of_getElem? (i := 79) rfl)
theorem lw480 : Cond.methodLink RX6 75 yX6_drawChild ∈ LW := LW_4_in _ (List.mem_of_getElem? (i := 80) rfl)
theorem lw481 : Cond.instanceMethod yX6_drawChild ∈ LW := LW_4_in _ (List.mem_of_getElem? (i := 81) rfl)
theorem lw482 : Cond.selects RX6 yX6_drawChild yX6_drawChild ∈ LW := LW_4_in _ (List.mem_of_getElem? (i := 82) rfl)
theorem lw483 : Cond.code yX6_draw cX6_draw 4 none ∈ LW := LW_4_in _ (List.mem_of_getElem? (i := 83) rfl)
theorem lw484 : Cond.code yX6_downsOf cX6_downsOf 4 (some .int) ∈ LW := LW_4_in _ (List.mem_of_getElem? (i := 84) rfl)
theorem lw485 : Cond.methodLink RX6 143 yX5_headOf ∈ LW := LW_4_in _ (List.mem_of_getElem? (i := 85) rfl)
theorem lw486 : Cond.methodLink RX6 146 yX6_downsOf ∈ LW := LW_4_in _ (List.mem_of_getElem? (i := 86) rfl)
theorem lw487 : Cond.instanceMethod yX6_downsOf ∈ LW := LW_4_in _ (List.mem_of_getElem? (i := 87) rfl)
theorem lw488 : Cond.selects RX6 yX6_downsOf yX6_downsOf ∈ LW := LW_4_in _ (List.mem_of_getElem? (i := 88) rfl)
theorem lw489 : Cond.code yX6_tellRelations cX6_tellRelations 8 (some .boolean) ∈ LW := LW_4_in _ (List.mem_of_getElem? (i := 89) rfl)
theorem lw490 : Cond.code yX6_hasRing cX6_hasRing 2 (some .boolean) ∈ LW := LW_4_in _ (List.mem_of_getElem? (i := 90) rfl)
theorem lw491 : Cond.fieldLink RX6 34 "AttribArbor$Grammar" "productions" "I" ∈ LW := LW_4_in _ (List.mem_of_getElem? (i := 91) rfl)
theorem lw492 : Cond.methodLink RX6 40 yX6_draw ∈ LW := LW_4_in _ (List.mem_of_getElem? (i := 92) rfl)
theorem lw493 : Cond.instanceMethod yX6_draw ∈ LW := LW_4_in _ (List.mem_of_getElem? (i := 93) rfl)
theorem lw494 : Cond.selects RX6 yX6_draw yX6_draw ∈ LW := LW_4_in _ (List.mem_of_getElem? (i := 94) rfl)
theorem lw495 : Cond.methodLink RX6 44 yX6_tellRelations ∈ LW := LW_4_in _ (List.mem_of_getElem? (i := 95) rfl)
theorem lw496 : Cond.instanceMethod yX6_tellRelations ∈ LW := LW_4_in _ (List.mem_of_getElem? (i := 96) rfl)
theorem lw497 : Cond.selects RX6 yX6_tellRelations yX6_tellRelations ∈ LW := LW_4_in _ (List.mem_of_getElem? (i := 97) rfl)
theorem lw498 : Cond.methodLink RX6 48 yX6_hasRing ∈ LW := LW_4_in _ (List.mem_of_getElem? (i := 98) rfl)
theorem lw499 : Cond.instanceMethod yX6_hasRing ∈ LW := LW_4_in _ (List.mem_of_getElem? (i := 99) rfl)
theorem lw500 : Cond.selects RX6 yX6_hasRing yX6_hasRing ∈ LW := LW_5_in _ (List.mem_of_getElem? (i := 0) rfl)
theorem lw501 : Cond.code yX6_firstRing cX6_firstRing 4 (some .int) ∈ LW := LW_5_in _ (List.mem_of_getElem? (i := 1) rfl)
theorem lw502 : Cond.code yX7_init cX7_init 6 none ∈ LW := LW_5_in _ (List.mem_of_getElem? (i := 2) rfl)
theorem lw503 : Cond.methodLink RX7 3 objectInit ∈ LW := LW_5_in _ (List.mem_of_getElem? (i := 3) rfl)
theorem lw504 : Cond.fieldLink RX7 9 "AttribArbor$Rings" "next" "[I" ∈ LW := LW_5_in _ (List.mem_of_getElem? (i := 4) rfl)
theorem lw505 : Cond.fieldLink RX7 15 "AttribArbor$Rings" "grammar" "LAttribArbor$Grammar;" ∈ LW := LW_5_in _ (List.mem_of_getElem? (i := 5) rfl)
theorem lw506 : Cond.fieldLink RX7 19 "AttribArbor$Rings" "tree" "LAttribArbor$Tree;" ∈ LW := LW_5_in _ (List.mem_of_getElem? (i := 6) rfl)
theorem lw507 : Cond.fieldLink RX7 23 "AttribArbor$Rings" "finder" "LAttribArbor$Finder;" ∈ LW := LW_5_in _ (List.mem_of_getElem? (i := 7) rfl)
theorem lw508 : Cond.fieldLink RX7 27 "AttribArbor$Rings" "scratch" "LAttribArbor$Findings;" ∈ LW := LW_5_in _ (List.mem_of_getElem? (i := 8) rfl)
theorem lw509 : Cond.fieldLink RX7 31 "AttribArbor$Rings" "now" "[I" ∈ LW := LW_5_in _ (List.mem_of_getElem? (i := 9) rfl)
theorem lw510 : Cond.code yX7_forget cX7_forget 1 none ∈ LW := LW_5_in _ (List.mem_of_getElem? (i := 10) rfl)
theorem lw511 : Cond.fieldLink RX7 34 "AttribArbor$Rings" "ready" "Z" ∈ LW := LW_5_in _ (List.mem_of_getElem? (i := 11) rfl)
theorem lw512 : Cond.code yX7_valueOf cX7_valueOf 2 (some .int) ∈ LW := LW_5_in _ (List.mem_of_getElem? (i := 12) rfl)
theorem lw513 : Cond.fieldLink RX7 55 "AttribArbor$Tree" "count" "I" ∈ LW := LW_5_in _ (List.mem_of_getElem? (i := 13) rfl)
theorem lw514 : Cond.methodLink RX7 50 yX3_clear ∈ LW := LW_5_in _ (List.mem_of_getElem? (i := 14) rfl)
theorem lw515 : Cond.instanceMethod yX3_clear ∈ LW := LW_5_in _ (List.mem_of_getElem? (i := 15) rfl)
theorem lw516 : Cond.selects RX3 yX3_clear yX3_clear ∈ LW := LW_5_in _ (List.mem_of_getElem? (i := 16) rfl)
theorem lw517 : Cond.methodLink RX7 61 yX5_kindOf ∈ LW := LW_5_in _ (List.mem_of_getElem? (i := 17) rfl)
theorem lw518 : Cond.methodLink RX7 67 yX2_find ∈ LW := LW_5_in _ (List.mem_of_getElem? (i := 18) rfl)
theorem lw519 : Cond.methodLink RX7 77 yX7_valueOf ∈ LW := LW_5_in _ (List.mem_of_getElem? (i := 19) rfl)
theorem lw520 : Cond.instanceMethod yX7_valueOf ∈ LW := LW_5_in _ (List.mem_of_getElem? (i := 20) rfl)
theorem lw521 : Cond.selects RX7 yX7_valueOf yX7_valueOf ∈ LW := LW_5_in _ (List.mem_of_getElem? (i := 21) rfl)
theorem lw522 : Cond.initialized RX7 ∈ LW := LW_5_in _ (List.mem_of_getElem? (i := 22) rfl)
theorem lw523 : Cond.code yX7_goRound cX7_goRound 4 (some .boolean) ∈ LW := LW_5_in _ (List.mem_of_getElem? (i := 23) rfl)
theorem lw524 : Cond.methodLink RX7 46 yX7_goRound ∈ LW := LW_5_in _ (List.mem_of_getElem? (i := 24) rfl)
theorem lw525 : Cond.instanceMethod yX7_goRound ∈ LW := LW_5_in _ (List.mem_of_getElem? (i := 25) rfl)
theorem lw526 : Cond.selects RX7 yX7_goRound yX7_goRound ∈ LW := LW_5_in _ (List.mem_of_getElem? (i := 26) rfl)
theorem lw527 : Cond.code yX7_settle cX7_settle 2 none ∈ LW := LW_5_in _ (List.mem_of_getElem? (i := 27) rfl)
theorem lw528 : Cond.code yX8_init cX8_init 1 none ∈ LW := LW_5_in _ (List.mem_of_getElem? (i := 28) rfl)
theorem lw529 : Cond.methodLink RX8 3 objectInit ∈ LW := LW_5_in _ (List.mem_of_getElem? (i := 29) rfl)
theorem lw530 : Cond.code yX8_clear cX8_clear 1 none ∈ LW := LW_5_in _ (List.mem_of_getElem? (i := 30) rfl)
theorem lw531 : Cond.fieldLink RX8 37 "AttribArbor$Tree" "repairs" "I" ∈ LW := LW_5_in _ (List.mem_of_getElem? (i := 31) rfl)
theorem lw532 : Cond.code yX8_append cX8_append 7 (some .int) ∈ LW := LW_5_in _ (List.mem_of_getElem? (i := 32) rfl)
theorem lw533 : Cond.code yX8_rewriteTo cX8_rewriteTo 3 none ∈ LW := LW_5_in _ (List.mem_of_getElem? (i := 33) rfl)
theorem lw534 : Cond.code yX8_isAlike cX8_isAlike 4 (some .boolean) ∈ LW := LW_5_in _ (List.mem_of_getElem? (i := 34) rfl)
theorem lw535 : Cond.methodLink RX8 77 yX8_readAsOf ∈ LW := LW_5_in _ (List.mem_of_getElem? (i := 35) rfl)
theorem lw536 : Cond.methodLink RX8 52 yX8_parentOf ∈ LW := LW_5_in _ (List.mem_of_getElem? (i := 36) rfl)
theorem lw537 : Cond.methodLink RX8 56 yX8_heirOf ∈ LW := LW_5_in _ (List.mem_of_getElem? (i := 37) rfl)
theorem lw538 : Cond.methodLink RX8 59 yX8_placeOf ∈ LW := LW_5_in _ (List.mem_of_getElem? (i := 38) rfl)
theorem lw539 : Cond.methodLink RX8 62 yX8_childOf ∈ LW := LW_5_in _ (List.mem_of_getElem? (i := 39) rfl)
theorem lw540 : Cond.methodLink RX8 66 yX8_isAlike ∈ LW := LW_5_in _ (List.mem_of_getElem? (i := 40) rfl)
theorem lw541 : Cond.instanceMethod yX8_isAlike ∈ LW := LW_5_in _ (List.mem_of_getElem? (i := 41) rfl)
theorem lw542 : Cond.selects RX8 yX8_isAlike yX8_isAlike ∈ LW := LW_5_in _ (List.mem_of_getElem? (i := 42) rfl)
theorem lw543 : Cond.methodLink RX8 70 yX8_nowOf ∈ LW := LW_5_in _ (List.mem_of_getElem? (i := 43) rfl)
theorem lw544 : Cond.methodLink RX8 73 yX8_rewriteTo ∈ LW := LW_5_in _ (List.mem_of_getElem? (i := 44) rfl)
theorem lw545 : Cond.instanceMethod yX8_rewriteTo ∈ LW := LW_5_in _ (List.mem_of_getElem? (i := 45) rfl)
theorem lw546 : Cond.selects RX8 yX8_rewriteTo yX8_rewriteTo ∈ LW := LW_5_in _ (List.mem_of_getElem? (i := 46) rfl)
theorem lw547 : Cond.code yX8_compare cX8_compare 5 (some .int) ∈ LW := LW_5_in _ (List.mem_of_getElem? (i := 47) rfl)
theorem lw548 : Cond.code yX8_touched cX8_touched 3 (some .int) ∈ LW := LW_5_in _ (List.mem_of_getElem? (i := 48) rfl)
theorem lw549 : Cond.code yX8_take cX8_take 2 none ∈ LW := LW_5_in _ (List.mem_of_getElem? (i := 49) rfl)
theorem lw550 : Cond.code yX9_init cX9_init 2 none ∈ LW := LW_5_in _ (List.mem_of_getElem? (i := 50) rfl)
theorem lw551 : Cond.methodLink RX9 5 objectInit ∈ LW := LW_5_in _ (List.mem_of_getElem? (i := 51) rfl)
theorem lw552 : Cond.fieldLink RX9 11 "AttribArbor$TreeReader" "text" "[I" ∈ LW := LW_5_in _ (List.mem_of_getElem? (i := 52) rfl)
theorem lw553 : Cond.fieldLink RX9 15 "AttribArbor$TreeReader" "weights" "[I" ∈ LW := LW_5_in _ (List.mem_of_getElem? (i := 53) rfl)
theorem lw554 : Cond.fieldLink RX9 18 "AttribArbor$TreeReader" "tails" "[I" ∈ LW := LW_5_in _ (List.mem_of_getElem? (i := 54) rfl)
theorem lw555 : Cond.fieldLink RX9 21 "AttribArbor$TreeReader" "heads" "[I" ∈ LW := LW_5_in _ (List.mem_of_getElem? (i := 55) rfl)
theorem lw556 : Cond.fieldLink RX9 24 "AttribArbor$TreeReader" "froms" "[I" ∈ LW := LW_5_in _ (List.mem_of_getElem? (i := 56) rfl)
theorem lw557 : Cond.fieldLink RX9 27 "AttribArbor$TreeReader" "tos" "[I" ∈ LW := LW_5_in _ (List.mem_of_getElem? (i := 57) rfl)
theorem lw558 : Cond.fieldLink RX9 30 "AttribArbor$TreeReader" "parents" "[I" ∈ LW := LW_5_in _ (List.mem_of_getElem? (i := 58) rfl)
theorem lw559 : Cond.fieldLink RX9 33 "AttribArbor$TreeReader" "places" "[I" ∈ LW := LW_5_in _ (List.mem_of_getElem? (i := 59) rfl)
theorem lw560 : Cond.fieldLink RX9 36 "AttribArbor$TreeReader" "ends" "[I" ∈ LW := LW_5_in _ (List.mem_of_getElem? (i := 60) rfl)
theorem lw561 : Cond.fieldLink RX9 39 "AttribArbor$TreeReader" "grammar" "LAttribArbor$Grammar;" ∈ LW := LW_5_in _ (List.mem_of_getElem? (i := 61) rfl)
theorem lw562 : Cond.code yX9_putLetter cX9_putLetter 4 none ∈ LW := LW_5_in _ (List.mem_of_getElem? (i := 62) rfl)
theorem lw563 : Cond.fieldLink RX9 43 "AttribArbor$TreeReader" "length" "I" ∈ LW := LW_5_in _ (List.mem_of_getElem? (i := 63) rfl)
theorem lw564 : Cond.code yX9_takeLetter cX9_takeLetter 3 none ∈ LW := LW_5_in _ (List.mem_of_getElem? (i := 64) rfl)
theorem lw565 : Cond.code yX9_placeOf cX9_placeOf 3 (some .int) ∈ LW := LW_5_in _ (List.mem_of_getElem? (i := 65) rfl)
theorem lw566 : Cond.code yX9_measureLetter cX9_measureLetter 6 none ∈ LW := LW_5_in _ (List.mem_of_getElem? (i := 66) rfl)
theorem lw567 : Cond.constant RX9 68 (100000) ∈ LW := LW_5_in _ (List.mem_of_getElem? (i := 67) rfl)
theorem lw568 : Cond.methodLink RX9 88 yX9_placeOf ∈ LW := LW_5_in _ (List.mem_of_getElem? (i := 68) rfl)
theorem lw569 : Cond.static yX9_placeOf ∈ LW := LW_5_in _ (List.mem_of_getElem? (i := 69) rfl)
theorem lw570 : Cond.initialized RX9 ∈ LW := LW_5_in _ (List.mem_of_getElem? (i := 70) rfl)
theorem lw571 : Cond.code yX9_weightOf cX9_weightOf 4 (some .int) ∈ LW := LW_5_in _ (List.mem_of_getElem? (i := 71) rfl)
theorem lw572 : Cond.fieldLink RX9 111 "AttribArbor$TreeReader" "cut" "I" ∈ LW := LW_5_in _ (List.mem_of_getElem? (i := 72) rfl)
theorem lw573 : Cond.constant RX9 67 (500000000) ∈ LW := LW_5_in _ (List.mem_of_getElem? (i := 73) rfl)
theorem lw574 : Cond.methodLink RX9 96 yX5_lengthOf ∈ LW := LW_5_in _ (List.mem_of_getElem? (i := 74) rfl)
theorem lw575 : Cond.instanceMethod yX5_lengthOf ∈ LW := LW_5_in _ (List.mem_of_getElem? (i := 75) rfl)
theorem lw576 : Cond.selects RX5 yX5_lengthOf yX5_lengthOf ∈ LW := LW_5_in _ (List.mem_of_getElem? (i := 76) rfl)
theorem lw577 : Cond.methodLink RX9 107 yX5_symbolOf ∈ LW := LW_5_in _ (List.mem_of_getElem? (i := 77) rfl)
theorem lw578 : Cond.instanceMethod yX5_symbolOf ∈ LW := LW_5_in _ (List.mem_of_getElem? (i := 78) rfl)
theorem lw579 : Cond.selects RX5 yX5_symbolOf yX5_symbolOf ∈ LW := LW_5_in _ (List.mem_of_getElem? (i := 79) rfl)
theorem lw580 : Cond.methodLink RX9 63 yX9_weightOf ∈ LW := LW_5_in _ (List.mem_of_getElem? (i := 80) rfl)
theorem lw581 : Cond.instanceMethod yX9_weightOf ∈ LW := LW_5_in _ (List.mem_of_getElem? (i := 81) rfl)
theorem lw582 : Cond.selects RX9 yX9_weightOf yX9_weightOf ∈ LW := LW_5_in _ (List.mem_of_getElem? (i := 82) rfl)
theorem lw583 : Cond.code yX9_weigh cX9_weigh 13 (some .int) ∈ LW := LW_5_in _ (List.mem_of_getElem? (i := 83) rfl)
theorem lw584 : Cond.fieldLink RX9 91 "AttribArbor$Grammar" "productions" "I" ∈ LW := LW_5_in _ (List.mem_of_getElem? (i := 84) rfl)
theorem lw585 : Cond.methodLink RX9 100 yX9_weigh ∈ LW := LW_5_in _ (List.mem_of_getElem? (i := 85) rfl)
theorem lw586 : Cond.instanceMethod yX9_weigh ∈ LW := LW_5_in _ (List.mem_of_getElem? (i := 86) rfl)
theorem lw587 : Cond.selects RX9 yX9_weigh yX9_weigh ∈ LW := LW_5_in _ (List.mem_of_getElem? (i := 87) rfl)
theorem lw588 : Cond.methodLink RX9 104 yX5_headOf ∈ LW := LW_5_in _ (List.mem_of_getElem? (i := 88) rfl)
theorem lw589 : Cond.code yX9_measureStretch cX9_measureStretch 8 none ∈ LW := LW_5_in _ (List.mem_of_getElem? (i := 89) rfl)
theorem lw590 : Cond.methodLink RX9 80 yX9_measureLetter ∈ LW := LW_5_in _ (List.mem_of_getElem? (i := 90) rfl)
theorem lw591 : Cond.instanceMethod yX9_measureLetter ∈ LW := LW_5_in _ (List.mem_of_getElem? (i := 91) rfl)
theorem lw592 : Cond.selects RX9 yX9_measureLetter yX9_measureLetter ∈ LW := LW_5_in _ (List.mem_of_getElem? (i := 92) rfl)
theorem lw593 : Cond.methodLink RX9 84 yX9_measureStretch ∈ LW := LW_5_in _ (List.mem_of_getElem? (i := 93) rfl)
theorem lw594 : Cond.instanceMethod yX9_measureStretch ∈ LW := LW_5_in _ (List.mem_of_getElem? (i := 94) rfl)
theorem lw595 : Cond.selects RX9 yX9_measureStretch yX9_measureStretch ∈ LW := LW_5_in _ (List.mem_of_getElem? (i := 95) rfl)
theorem lw596 : Cond.code yX9_measure cX9_measure 3 none ∈ LW := LW_5_in _ (List.mem_of_getElem? (i := 96) rfl)
theorem lw597 : Cond.code yX9_await cX9_await 6 none ∈ LW := LW_5_in _ (List.mem_of_getElem? (i := 97) rfl)
theorem lw598 : Cond.fieldLink RX9 114 "AttribArbor$TreeReader" "waiting" "I" ∈ LW := LW_5_in _ (List.mem_of_getElem? (i := 98) rfl)
theorem lw599 : Cond.code yX9_productionFor cX9_productionFor 6 (some .int) ∈ LW := LW_5_in _ (List.mem_of_getElem? (i := 99) rfl)
theorem lw600 : Cond.code yX9_cutUp cX9_cutUp 6 none ∈ LW := LW_6_in _ (List.mem_of_getElem? (i := 0) rfl)
theorem lw601 : Cond.code yX9_putsOf cX9_putsOf 8 (some .int) ∈ LW := LW_6_in _ (List.mem_of_getElem? (i := 1) rfl)
theorem lw602 : Cond.methodLink RX9 137 yX5_childCountOf ∈ LW := LW_6_in _ (List.mem_of_getElem? (i := 2) rfl)
theorem lw603 : Cond.methodLink RX9 117 yX9_await ∈ LW := LW_6_in _ (List.mem_of_getElem? (i := 3) rfl)
theorem lw604 : Cond.instanceMethod yX9_await ∈ LW := LW_6_in _ (List.mem_of_getElem? (i := 4) rfl)
theorem lw605 : Cond.selects RX9 yX9_await yX9_await ∈ LW := LW_6_in _ (List.mem_of_getElem? (i := 5) rfl)
theorem lw606 : Cond.code yX9_awaitChildren cX9_awaitChildren 6 none ∈ LW := LW_6_in _ (List.mem_of_getElem? (i := 6) rfl)
theorem lw607 : Cond.methodLink RX9 121 yX9_productionFor ∈ LW := LW_6_in _ (List.mem_of_getElem? (i := 7) rfl)
theorem lw608 : Cond.instanceMethod yX9_productionFor ∈ LW := LW_6_in _ (List.mem_of_getElem? (i := 8) rfl)
theorem lw609 : Cond.selects RX9 yX9_productionFor yX9_productionFor ∈ LW := LW_6_in _ (List.mem_of_getElem? (i := 9) rfl)
theorem lw610 : Cond.methodLink RX9 124 yX9_cutUp ∈ LW := LW_6_in _ (List.mem_of_getElem? (i := 10) rfl)
theorem lw611 : Cond.instanceMethod yX9_cutUp ∈ LW := LW_6_in _ (List.mem_of_getElem? (i := 11) rfl)
theorem lw612 : Cond.selects RX9 yX9_cutUp yX9_cutUp ∈ LW := LW_6_in _ (List.mem_of_getElem? (i := 12) rfl)
theorem lw613 : Cond.methodLink RX9 128 yX9_putsOf ∈ LW := LW_6_in _ (List.mem_of_getElem? (i := 13) rfl)
theorem lw614 : Cond.instanceMethod yX9_putsOf ∈ LW := LW_6_in _ (List.mem_of_getElem? (i := 14) rfl)
theorem lw615 : Cond.selects RX9 yX9_putsOf yX9_putsOf ∈ LW := LW_6_in _ (List.mem_of_getElem? (i := 15) rfl)
theorem lw616 : Cond.methodLink RX9 131 yX8_append ∈ LW := LW_6_in _ (List.mem_of_getElem? (i := 16) rfl)
theorem lw617 : Cond.instanceMethod yX8_append ∈ LW := LW_6_in _ (List.mem_of_getElem? (i := 17) rfl)
theorem lw618 : Cond.selects RX8 yX8_append yX8_append ∈ LW := LW_6_in _ (List.mem_of_getElem? (i := 18) rfl)
theorem lw619 : Cond.methodLink RX9 134 yX9_awaitChildren ∈ LW := LW_6_in _ (List.mem_of_getElem? (i := 19) rfl)
theorem lw620 : Cond.instanceMethod yX9_awaitChildren ∈ LW := LW_6_in _ (List.mem_of_getElem? (i := 20) rfl)
theorem lw621 : Cond.selects RX9 yX9_awaitChildren yX9_awaitChildren ∈ LW := LW_6_in _ (List.mem_of_getElem? (i := 21) rfl)
theorem lw622 : Cond.code yX9_grow cX9_grow 8 none ∈ LW := LW_6_in _ (List.mem_of_getElem? (i := 22) rfl)
theorem lw623 : Cond.fieldLink RX9 73 "AttribArbor$Tree" "repairs" "I" ∈ LW := LW_6_in _ (List.mem_of_getElem? (i := 23) rfl)
theorem lw624 : Cond.methodLink RX9 55 yX8_clear ∈ LW := LW_6_in _ (List.mem_of_getElem? (i := 24) rfl)
theorem lw625 : Cond.instanceMethod yX8_clear ∈ LW := LW_6_in _ (List.mem_of_getElem? (i := 25) rfl)
theorem lw626 : Cond.selects RX8 yX8_clear yX8_clear ∈ LW := LW_6_in _ (List.mem_of_getElem? (i := 26) rfl)
theorem lw627 : Cond.methodLink RX9 60 yX9_measure ∈ LW := LW_6_in _ (List.mem_of_getElem? (i := 27) rfl)
theorem lw628 : Cond.instanceMethod yX9_measure ∈ LW := LW_6_in _ (List.mem_of_getElem? (i := 28) rfl)
theorem lw629 : Cond.selects RX9 yX9_measure yX9_measure ∈ LW := LW_6_in _ (List.mem_of_getElem? (i := 29) rfl)
theorem lw630 : Cond.methodLink RX9 69 yX9_grow ∈ LW := LW_6_in _ (List.mem_of_getElem? (i := 30) rfl)
theorem lw631 : Cond.instanceMethod yX9_grow ∈ LW := LW_6_in _ (List.mem_of_getElem? (i := 31) rfl)
theorem lw632 : Cond.selects RX9 yX9_grow yX9_grow ∈ LW := LW_6_in _ (List.mem_of_getElem? (i := 32) rfl)
theorem lw633 : Cond.code yX9_readInto cX9_readInto 3 none ∈ LW := LW_6_in _ (List.mem_of_getElem? (i := 33) rfl)
theorem lw634 : Cond.code yX10_init cX10_init 2 none ∈ LW := LW_6_in _ (List.mem_of_getElem? (i := 34) rfl)
theorem lw635 : Cond.methodLink RX10 3 objectInit ∈ LW := LW_6_in _ (List.mem_of_getElem? (i := 35) rfl)
theorem lw636 : Cond.methodLink RX11 3 objectInit ∈ LW := LW_6_in _ (List.mem_of_getElem? (i := 36) rfl)
theorem lw637 : Cond.classLink RX11 9 RX5 ∈ LW := LW_6_in _ (List.mem_of_getElem? (i := 37) rfl)
theorem lw638 : Cond.instantiable RX5 14 ∈ LW := LW_6_in _ (List.mem_of_getElem? (i := 38) rfl)
theorem lw639 : Cond.fieldLink RX11 12 "AttribArbor" "grammar" "LAttribArbor$Grammar;" ∈ LW := LW_6_in _ (List.mem_of_getElem? (i := 39) rfl)
theorem lw640 : Cond.classLink RX11 16 RX0 ∈ LW := LW_6_in _ (List.mem_of_getElem? (i := 40) rfl)
theorem lw641 : Cond.fieldLink RX11 19 "AttribArbor" "draft" "LAttribArbor$Equation;" ∈ LW := LW_6_in _ (List.mem_of_getElem? (i := 41) rfl)
theorem lw642 : Cond.classLink RX11 23 RX10 ∈ LW := LW_6_in _ (List.mem_of_getElem? (i := 42) rfl)
theorem lw643 : Cond.instantiable RX10 3 ∈ LW := LW_6_in _ (List.mem_of_getElem? (i := 43) rfl)
theorem lw644 : Cond.classLink RX11 28 RX1 ∈ LW := LW_6_in _ (List.mem_of_getElem? (i := 44) rfl)
theorem lw645 : Cond.instantiable RX1 10 ∈ LW := LW_6_in _ (List.mem_of_getElem? (i := 45) rfl)
theorem lw646 : Cond.fieldLink RX11 33 "AttribArbor" "equations" "LAttribArbor$Equations;" ∈ LW := LW_6_in _ (List.mem_of_getElem? (i := 46) rfl)
theorem lw647 : Cond.classLink RX11 37 RX9 ∈ LW := LW_6_in _ (List.mem_of_getElem? (i := 47) rfl)
theorem lw648 : Cond.instantiable RX9 13 ∈ LW := LW_6_in _ (List.mem_of_getElem? (i := 48) rfl)
theorem lw649 : Cond.fieldLink RX11 40 "AttribArbor" "reader" "LAttribArbor$TreeReader;" ∈ LW := LW_6_in _ (List.mem_of_getElem? (i := 49) rfl)
theorem lw650 : Cond.classLink RX11 44 RX8 ∈ LW := LW_6_in _ (List.mem_of_getElem? (i := 50) rfl)
theorem lw651 : Cond.instantiable RX8 9 ∈ LW := LW_6_in _ (List.mem_of_getElem? (i := 51) rfl)
theorem lw652 : Cond.fieldLink RX11 47 "AttribArbor" "tree" "LAttribArbor$Tree;" ∈ LW := LW_6_in _ (List.mem_of_getElem? (i := 52) rfl)
theorem lw653 : Cond.fieldLink RX11 51 "AttribArbor" "fresh" "LAttribArbor$Tree;" ∈ LW := LW_6_in _ (List.mem_of_getElem? (i := 53) rfl)
theorem lw654 : Cond.classLink RX11 54 RX3 ∈ LW := LW_6_in _ (List.mem_of_getElem? (i := 54) rfl)
theorem lw655 : Cond.instantiable RX3 5 ∈ LW := LW_6_in _ (List.mem_of_getElem? (i := 55) rfl)
theorem lw656 : Cond.fieldLink RX11 57 "AttribArbor" "kept" "LAttribArbor$Findings;" ∈ LW := LW_6_in _ (List.mem_of_getElem? (i := 56) rfl)
theorem lw657 : Cond.fieldLink RX11 61 "AttribArbor" "scratch" "LAttribArbor$Findings;" ∈ LW := LW_6_in _ (List.mem_of_getElem? (i := 57) rfl)
theorem lw658 : Cond.classLink RX11 64 RX2 ∈ LW := LW_6_in _ (List.mem_of_getElem? (i := 58) rfl)
theorem lw659 : Cond.instantiable RX2 13 ∈ LW := LW_6_in _ (List.mem_of_getElem? (i := 59) rfl)
theorem lw660 : Cond.fieldLink RX11 69 "AttribArbor" "finder" "LAttribArbor$Finder;" ∈ LW := LW_6_in _ (List.mem_of_getElem? (i := 60) rfl)
theorem lw661 : Cond.classLink RX11 73 RX7 ∈ LW := LW_6_in _ (List.mem_of_getElem? (i := 61) rfl)
theorem lw662 : Cond.instantiable RX7 7 ∈ LW := LW_6_in _ (List.mem_of_getElem? (i := 62) rfl)
theorem lw663 : Cond.fieldLink RX11 78 "AttribArbor" "rings" "LAttribArbor$Rings;" ∈ LW := LW_6_in _ (List.mem_of_getElem? (i := 63) rfl)
theorem lw664 : Cond.classLink RX11 82 RX6 ∈ LW := LW_6_in _ (List.mem_of_getElem? (i := 64) rfl)
theorem lw665 : Cond.instantiable RX6 5 ∈ LW := LW_6_in _ (List.mem_of_getElem? (i := 65) rfl)
theorem lw666 : Cond.fieldLink RX11 87 "AttribArbor" "graph" "LAttribArbor$HangGraph;" ∈ LW := LW_6_in _ (List.mem_of_getElem? (i := 66) rfl)
theorem lw667 : Cond.instanceMethod yX5_init ∈ LW := LW_6_in _ (List.mem_of_getElem? (i := 67) rfl)
theorem lw668 : Cond.methodLink RX11 25 yX10_init ∈ LW := LW_6_in _ (List.mem_of_getElem? (i := 68) rfl)
theorem lw669 : Cond.instanceMethod yX10_init ∈ LW := LW_6_in _ (List.mem_of_getElem? (i := 69) rfl)
theorem lw670 : Cond.methodLink RX11 30 yX1_init ∈ LW := LW_6_in _ (List.mem_of_getElem? (i := 70) rfl)
theorem lw671 : Cond.instanceMethod yX1_init ∈ LW := LW_6_in _ (List.mem_of_getElem? (i := 71) rfl)
theorem lw672 : Cond.methodLink RX11 39 yX9_init ∈ LW := LW_6_in _ (List.mem_of_getElem? (i := 72) rfl)
theorem lw673 : Cond.instanceMethod yX9_init ∈ LW := LW_6_in _ (List.mem_of_getElem? (i := 73) rfl)
theorem lw674 : Cond.instanceMethod yX8_init ∈ LW := LW_6_in _ (List.mem_of_getElem? (i := 74) rfl)
theorem lw675 : Cond.instanceMethod yX3_init ∈ LW := LW_6_in _ (List.mem_of_getElem? (i := 75) rfl)
theorem lw676 : Cond.methodLink RX11 66 yX2_init ∈ LW := LW_6_in _ (List.mem_of_getElem? (i := 76) rfl)
theorem lw677 : Cond.instanceMethod yX2_init ∈ LW := LW_6_in _ (List.mem_of_getElem? (i := 77) rfl)
theorem lw678 : Cond.methodLink RX11 75 yX7_init ∈ LW := LW_6_in _ (List.mem_of_getElem? (i := 78) rfl)
theorem lw679 : Cond.instanceMethod yX7_init ∈ LW := LW_6_in _ (List.mem_of_getElem? (i := 79) rfl)
theorem lw680 : Cond.methodLink RX11 84 yX6_init ∈ LW := LW_6_in _ (List.mem_of_getElem? (i := 80) rfl)
theorem lw681 : Cond.instanceMethod yX6_init ∈ LW := LW_6_in _ (List.mem_of_getElem? (i := 81) rfl)
theorem lw682 : Cond.code yX11_init cX11_init 3 none ∈ LW := LW_6_in _ (List.mem_of_getElem? (i := 82) rfl)
theorem lw683 : Cond.code yX11_followsAsSymbol cX11_followsAsSymbol 3 (some .boolean) ∈ LW := LW_6_in _ (List.mem_of_getElem? (i := 83) rfl)
theorem lw684 : Cond.methodLink RX11 339 yX1_arrange ∈ LW := LW_6_in _ (List.mem_of_getElem? (i := 84) rfl)
theorem lw685 : Cond.instanceMethod yX1_arrange ∈ LW := LW_6_in _ (List.mem_of_getElem? (i := 85) rfl)
theorem lw686 : Cond.selects RX1 yX1_arrange yX1_arrange ∈ LW := LW_6_in _ (List.mem_of_getElem? (i := 86) rfl)
theorem lw687 : Cond.methodLink RX11 302 yX3_clear ∈ LW := LW_6_in _ (List.mem_of_getElem? (i := 87) rfl)
theorem lw688 : Cond.methodLink RX11 299 yX7_forget ∈ LW := LW_6_in _ (List.mem_of_getElem? (i := 88) rfl)
theorem lw689 : Cond.instanceMethod yX7_forget ∈ LW := LW_6_in _ (List.mem_of_getElem? (i := 89) rfl)
theorem lw690 : Cond.selects RX7 yX7_forget yX7_forget ∈ LW := LW_6_in _ (List.mem_of_getElem? (i := 90) rfl)
theorem lw691 : Cond.code yX11_followGrammar cX11_followGrammar 1 none ∈ LW := LW_6_in _ (List.mem_of_getElem? (i := 91) rfl)
theorem lw692 : Cond.classLink RX11 91 "java/lang/IndexOutOfBoundsException" ∈ LW := LW_6_in _ (List.mem_of_getElem? (i := 92) rfl)
theorem lw693 : Cond.initialized "java/lang/IndexOutOfBoundsException" ∈ LW := LW_6_in _ (List.mem_of_getElem? (i := 93) rfl)
theorem lw694 : Cond.classLink RX11 102 "java/lang/IllegalArgumentException" ∈ LW := LW_6_in _ (List.mem_of_getElem? (i := 94) rfl)
theorem lw695 : Cond.initialized "java/lang/IllegalArgumentException" ∈ LW := LW_6_in _ (List.mem_of_getElem? (i := 95) rfl)
theorem lw696 : Cond.classLink RX11 111 "java/lang/IllegalStateException" ∈ LW := LW_6_in _ (List.mem_of_getElem? (i := 96) rfl)
theorem lw697 : Cond.initialized "java/lang/IllegalStateException" ∈ LW := LW_6_in _ (List.mem_of_getElem? (i := 97) rfl)
theorem lw698 : Cond.fieldLink RX11 107 "AttribArbor$Grammar" "productions" "I" ∈ LW := LW_6_in _ (List.mem_of_getElem? (i := 98) rfl)
theorem lw699 : Cond.methodLink RX11 98 yX11_followsAsSymbol ∈ LW := LW_6_in _ (List.mem_of_getElem? (i := 99) rfl)
theorem lw700 : Cond.static yX11_followsAsSymbol ∈ LW := LW_7_in _ (List.mem_of_getElem? (i := 0) rfl)
theorem lw701 : Cond.methodLink RX11 116 yX5_addProduction ∈ LW := LW_7_in _ (List.mem_of_getElem? (i := 1) rfl)
theorem lw702 : Cond.instanceMethod yX5_addProduction ∈ LW := LW_7_in _ (List.mem_of_getElem? (i := 2) rfl)
theorem lw703 : Cond.selects RX5 yX5_addProduction yX5_addProduction ∈ LW := LW_7_in _ (List.mem_of_getElem? (i := 3) rfl)
theorem lw704 : Cond.methodLink RX11 120 yX11_followGrammar ∈ LW := LW_7_in _ (List.mem_of_getElem? (i := 4) rfl)
theorem lw705 : Cond.instanceMethod yX11_followGrammar ∈ LW := LW_7_in _ (List.mem_of_getElem? (i := 5) rfl)
theorem lw706 : Cond.selects RX11 yX11_followGrammar yX11_followGrammar ∈ LW := LW_7_in _ (List.mem_of_getElem? (i := 6) rfl)
theorem lw707 : Cond.code yX11_production cX11_production 6 (some .int) ∈ LW := LW_7_in _ (List.mem_of_getElem? (i := 7) rfl)
theorem lw708 : Cond.code yX11_standsByChild cX11_standsByChild 5 (some .boolean) ∈ LW := LW_7_in _ (List.mem_of_getElem? (i := 8) rfl)
theorem lw709 : Cond.methodLink RX11 201 yX5_childCountOf ∈ LW := LW_7_in _ (List.mem_of_getElem? (i := 9) rfl)
theorem lw710 : Cond.code yX11_standsRightly cX11_standsRightly 5 (some .boolean) ∈ LW := LW_7_in _ (List.mem_of_getElem? (i := 10) rfl)
theorem lw711 : Cond.methodLink RX11 365 yX5_childHeadOf ∈ LW := LW_7_in _ (List.mem_of_getElem? (i := 11) rfl)
theorem lw712 : Cond.methodLink RX11 123 yX5_hasProduction ∈ LW := LW_7_in _ (List.mem_of_getElem? (i := 12) rfl)
theorem lw713 : Cond.instanceMethod yX5_hasProduction ∈ LW := LW_7_in _ (List.mem_of_getElem? (i := 13) rfl)
theorem lw714 : Cond.selects RX5 yX5_hasProduction yX5_hasProduction ∈ LW := LW_7_in _ (List.mem_of_getElem? (i := 14) rfl)
theorem lw715 : Cond.methodLink RX11 129 yX11_standsByChild ∈ LW := LW_7_in _ (List.mem_of_getElem? (i := 15) rfl)
theorem lw716 : Cond.instanceMethod yX11_standsByChild ∈ LW := LW_7_in _ (List.mem_of_getElem? (i := 16) rfl)
theorem lw717 : Cond.selects RX11 yX11_standsByChild yX11_standsByChild ∈ LW := LW_7_in _ (List.mem_of_getElem? (i := 17) rfl)
theorem lw718 : Cond.methodLink RX11 135 yX5_headOf ∈ LW := LW_7_in _ (List.mem_of_getElem? (i := 18) rfl)
theorem lw719 : Cond.methodLink RX11 141 yX11_standsRightly ∈ LW := LW_7_in _ (List.mem_of_getElem? (i := 19) rfl)
theorem lw720 : Cond.instanceMethod yX11_standsRightly ∈ LW := LW_7_in _ (List.mem_of_getElem? (i := 20) rfl)
theorem lw721 : Cond.selects RX11 yX11_standsRightly yX11_standsRightly ∈ LW := LW_7_in _ (List.mem_of_getElem? (i := 21) rfl)
theorem lw722 : Cond.methodLink RX11 146 yX5_tellForward ∈ LW := LW_7_in _ (List.mem_of_getElem? (i := 22) rfl)
theorem lw723 : Cond.instanceMethod yX5_tellForward ∈ LW := LW_7_in _ (List.mem_of_getElem? (i := 23) rfl)
theorem lw724 : Cond.selects RX5 yX5_tellForward yX5_tellForward ∈ LW := LW_7_in _ (List.mem_of_getElem? (i := 24) rfl)
theorem lw725 : Cond.code yX11_forward cX11_forward 7 (some .int) ∈ LW := LW_7_in _ (List.mem_of_getElem? (i := 25) rfl)
theorem lw726 : Cond.code yX11_mustBeAttribute cX11_mustBeAttribute 2 none ∈ LW := LW_7_in _ (List.mem_of_getElem? (i := 26) rfl)
theorem lw727 : Cond.methodLink RX11 330 yX5_hasAttribute ∈ LW := LW_7_in _ (List.mem_of_getElem? (i := 27) rfl)
theorem lw728 : Cond.instanceMethod yX5_hasAttribute ∈ LW := LW_7_in _ (List.mem_of_getElem? (i := 28) rfl)
theorem lw729 : Cond.selects RX5 yX5_hasAttribute yX5_hasAttribute ∈ LW := LW_7_in _ (List.mem_of_getElem? (i := 29) rfl)
theorem lw730 : Cond.methodLink RX11 150 yX11_mustBeAttribute ∈ LW := LW_7_in _ (List.mem_of_getElem? (i := 30) rfl)
theorem lw731 : Cond.instanceMethod yX11_mustBeAttribute ∈ LW := LW_7_in _ (List.mem_of_getElem? (i := 31) rfl)
theorem lw732 : Cond.selects RX11 yX11_mustBeAttribute yX11_mustBeAttribute ∈ LW := LW_7_in _ (List.mem_of_getElem? (i := 32) rfl)
theorem lw733 : Cond.methodLink RX11 154 yX5_isAlikeInShape ∈ LW := LW_7_in _ (List.mem_of_getElem? (i := 33) rfl)
theorem lw734 : Cond.instanceMethod yX5_isAlikeInShape ∈ LW := LW_7_in _ (List.mem_of_getElem? (i := 34) rfl)
theorem lw735 : Cond.selects RX5 yX5_isAlikeInShape yX5_isAlikeInShape ∈ LW := LW_7_in _ (List.mem_of_getElem? (i := 35) rfl)
theorem lw736 : Cond.methodLink RX11 158 yX5_tellRule ∈ LW := LW_7_in _ (List.mem_of_getElem? (i := 36) rfl)
theorem lw737 : Cond.instanceMethod yX5_tellRule ∈ LW := LW_7_in _ (List.mem_of_getElem? (i := 37) rfl)
theorem lw738 : Cond.selects RX5 yX5_tellRule yX5_tellRule ∈ LW := LW_7_in _ (List.mem_of_getElem? (i := 38) rfl)
theorem lw739 : Cond.code yX11_rule cX11_rule 5 (some .int) ∈ LW := LW_7_in _ (List.mem_of_getElem? (i := 39) rfl)
theorem lw740 : Cond.fieldLink RX11 164 "AttribArbor$Grammar" "attributes" "I" ∈ LW := LW_7_in _ (List.mem_of_getElem? (i := 40) rfl)
theorem lw741 : Cond.methodLink RX11 169 yX5_addAttribute ∈ LW := LW_7_in _ (List.mem_of_getElem? (i := 41) rfl)
theorem lw742 : Cond.instanceMethod yX5_addAttribute ∈ LW := LW_7_in _ (List.mem_of_getElem? (i := 42) rfl)
theorem lw743 : Cond.selects RX5 yX5_addAttribute yX5_addAttribute ∈ LW := LW_7_in _ (List.mem_of_getElem? (i := 43) rfl)
theorem lw744 : Cond.code yX11_attribute cX11_attribute 3 (some .int) ∈ LW := LW_7_in _ (List.mem_of_getElem? (i := 44) rfl)
theorem lw745 : Cond.code yX11_tellsAttribute cX11_tellsAttribute 1 (some .boolean) ∈ LW := LW_7_in _ (List.mem_of_getElem? (i := 45) rfl)
theorem lw746 : Cond.code yX11_isRightNumber cX11_isRightNumber 3 (some .boolean) ∈ LW := LW_7_in _ (List.mem_of_getElem? (i := 46) rfl)
theorem lw747 : Cond.methodLink RX11 172 yX11_tellsAttribute ∈ LW := LW_7_in _ (List.mem_of_getElem? (i := 47) rfl)
theorem lw748 : Cond.static yX11_tellsAttribute ∈ LW := LW_7_in _ (List.mem_of_getElem? (i := 48) rfl)
theorem lw749 : Cond.code yX11_isRightChild cX11_isRightChild 2 (some .boolean) ∈ LW := LW_7_in _ (List.mem_of_getElem? (i := 49) rfl)
theorem lw750 : Cond.fieldLink RX11 183 "AttribArbor$Equation" "size" "I" ∈ LW := LW_7_in _ (List.mem_of_getElem? (i := 50) rfl)
theorem lw751 : Cond.fieldLink RX11 186 "AttribArbor$Equation" "standing" "I" ∈ LW := LW_7_in _ (List.mem_of_getElem? (i := 51) rfl)
theorem lw752 : Cond.methodLink RX11 175 yX11_isRightNumber ∈ LW := LW_7_in _ (List.mem_of_getElem? (i := 52) rfl)
theorem lw753 : Cond.static yX11_isRightNumber ∈ LW := LW_7_in _ (List.mem_of_getElem? (i := 53) rfl)
theorem lw754 : Cond.methodLink RX11 178 yX11_isRightChild ∈ LW := LW_7_in _ (List.mem_of_getElem? (i := 54) rfl)
theorem lw755 : Cond.static yX11_isRightChild ∈ LW := LW_7_in _ (List.mem_of_getElem? (i := 55) rfl)
theorem lw756 : Cond.methodLink RX11 189 yX11_operandsOf ∈ LW := LW_7_in _ (List.mem_of_getElem? (i := 56) rfl)
theorem lw757 : Cond.methodLink RX11 194 yX0_append ∈ LW := LW_7_in _ (List.mem_of_getElem? (i := 57) rfl)
theorem lw758 : Cond.instanceMethod yX0_append ∈ LW := LW_7_in _ (List.mem_of_getElem? (i := 58) rfl)
theorem lw759 : Cond.selects RX0 yX0_append yX0_append ∈ LW := LW_7_in _ (List.mem_of_getElem? (i := 59) rfl)
theorem lw760 : Cond.code yX11_step cX11_step 4 (some .int) ∈ LW := LW_7_in _ (List.mem_of_getElem? (i := 60) rfl)
theorem lw761 : Cond.code yX11_dropSteps cX11_dropSteps 2 (some .int) ∈ LW := LW_7_in _ (List.mem_of_getElem? (i := 61) rfl)
theorem lw762 : Cond.methodLink RX11 198 yX0_clear ∈ LW := LW_7_in _ (List.mem_of_getElem? (i := 62) rfl)
theorem lw763 : Cond.instanceMethod yX0_clear ∈ LW := LW_7_in _ (List.mem_of_getElem? (i := 63) rfl)
theorem lw764 : Cond.selects RX0 yX0_clear yX0_clear ∈ LW := LW_7_in _ (List.mem_of_getElem? (i := 64) rfl)
theorem lw765 : Cond.code yX11_mustBeAspect cX11_mustBeAspect 2 none ∈ LW := LW_7_in _ (List.mem_of_getElem? (i := 65) rfl)
theorem lw766 : Cond.code yX11_goesWithKind cX11_goesWithKind 2 (some .boolean) ∈ LW := LW_7_in _ (List.mem_of_getElem? (i := 66) rfl)
theorem lw767 : Cond.fieldLink RX11 215 "AttribArbor$Equations" "count" "I" ∈ LW := LW_7_in _ (List.mem_of_getElem? (i := 67) rfl)
theorem lw768 : Cond.methodLink RX11 204 yX11_mustBeAspect ∈ LW := LW_7_in _ (List.mem_of_getElem? (i := 68) rfl)
theorem lw769 : Cond.instanceMethod yX11_mustBeAspect ∈ LW := LW_7_in _ (List.mem_of_getElem? (i := 69) rfl)
theorem lw770 : Cond.selects RX11 yX11_mustBeAspect yX11_mustBeAspect ∈ LW := LW_7_in _ (List.mem_of_getElem? (i := 70) rfl)
theorem lw771 : Cond.methodLink RX11 207 yX5_kindOf ∈ LW := LW_7_in _ (List.mem_of_getElem? (i := 71) rfl)
theorem lw772 : Cond.methodLink RX11 210 yX11_goesWithKind ∈ LW := LW_7_in _ (List.mem_of_getElem? (i := 72) rfl)
theorem lw773 : Cond.static yX11_goesWithKind ∈ LW := LW_7_in _ (List.mem_of_getElem? (i := 73) rfl)
theorem lw774 : Cond.methodLink RX11 220 yX0_place ∈ LW := LW_7_in _ (List.mem_of_getElem? (i := 74) rfl)
theorem lw775 : Cond.methodLink RX11 224 yX1_append ∈ LW := LW_7_in _ (List.mem_of_getElem? (i := 75) rfl)
theorem lw776 : Cond.instanceMethod yX1_append ∈ LW := LW_7_in _ (List.mem_of_getElem? (i := 76) rfl)
theorem lw777 : Cond.selects RX1 yX1_append yX1_append ∈ LW := LW_7_in _ (List.mem_of_getElem? (i := 77) rfl)
theorem lw778 : Cond.code yX11_equation cX11_equation 7 (some .int) ∈ LW := LW_7_in _ (List.mem_of_getElem? (i := 78) rfl)
theorem lw779 : Cond.methodLink RX11 227 yX1_turnAspect ∈ LW := LW_7_in _ (List.mem_of_getElem? (i := 79) rfl)
theorem lw780 : Cond.instanceMethod yX1_turnAspect ∈ LW := LW_7_in _ (List.mem_of_getElem? (i := 80) rfl)
theorem lw781 : Cond.selects RX1 yX1_turnAspect yX1_turnAspect ∈ LW := LW_7_in _ (List.mem_of_getElem? (i := 81) rfl)
theorem lw782 : Cond.code yX11_toggle cX11_toggle 3 (some .boolean) ∈ LW := LW_7_in _ (List.mem_of_getElem? (i := 82) rfl)
theorem lw783 : Cond.methodLink RX11 230 yX1_countConflicts ∈ LW := LW_7_in _ (List.mem_of_getElem? (i := 83) rfl)
theorem lw784 : Cond.instanceMethod yX1_countConflicts ∈ LW := LW_7_in _ (List.mem_of_getElem? (i := 84) rfl)
theorem lw785 : Cond.selects RX1 yX1_countConflicts yX1_countConflicts ∈ LW := LW_7_in _ (List.mem_of_getElem? (i := 85) rfl)
theorem lw786 : Cond.code yX11_conflicts cX11_conflicts 1 (some .int) ∈ LW := LW_7_in _ (List.mem_of_getElem? (i := 86) rfl)
theorem lw787 : Cond.methodLink RX11 234 yX6_firstRing ∈ LW := LW_7_in _ (List.mem_of_getElem? (i := 87) rfl)
theorem lw788 : Cond.instanceMethod yX6_firstRing ∈ LW := LW_7_in _ (List.mem_of_getElem? (i := 88) rfl)
theorem lw789 : Cond.selects RX6 yX6_firstRing yX6_firstRing ∈ LW := LW_7_in _ (List.mem_of_getElem? (i := 89) rfl)
theorem lw790 : Cond.code yX11_ringIn cX11_ringIn 1 (some .int) ∈ LW := LW_7_in _ (List.mem_of_getElem? (i := 90) rfl)
theorem lw791 : Cond.fieldLink RX11 260 "AttribArbor$Tree" "count" "I" ∈ LW := LW_7_in _ (List.mem_of_getElem? (i := 91) rfl)
theorem lw792 : Cond.constant RX11 295 (1073741824) ∈ LW := LW_7_in _ (List.mem_of_getElem? (i := 92) rfl)
theorem lw793 : Cond.methodLink RX11 348 yX9_readInto ∈ LW := LW_7_in _ (List.mem_of_getElem? (i := 93) rfl)
theorem lw794 : Cond.instanceMethod yX9_readInto ∈ LW := LW_7_in _ (List.mem_of_getElem? (i := 94) rfl)
theorem lw795 : Cond.selects RX9 yX9_readInto yX9_readInto ∈ LW := LW_7_in _ (List.mem_of_getElem? (i := 95) rfl)
theorem lw796 : Cond.methodLink RX11 352 yX8_compare ∈ LW := LW_7_in _ (List.mem_of_getElem? (i := 96) rfl)
theorem lw797 : Cond.instanceMethod yX8_compare ∈ LW := LW_7_in _ (List.mem_of_getElem? (i := 97) rfl)
theorem lw798 : Cond.selects RX8 yX8_compare yX8_compare ∈ LW := LW_7_in _ (List.mem_of_getElem? (i := 98) rfl)
theorem lw799 : Cond.methodLink RX11 356 yX8_touched ∈ LW := LW_7_in _ (List.mem_of_getElem? (i := 99) rfl)
theorem lw800 : Cond.instanceMethod yX8_touched ∈ LW := LW_8_in _ (List.mem_of_getElem? (i := 0) rfl)
theorem lw801 : Cond.selects RX8 yX8_touched yX8_touched ∈ LW := LW_8_in _ (List.mem_of_getElem? (i := 1) rfl)
theorem lw802 : Cond.methodLink RX11 296 yX3_drop ∈ LW := LW_8_in _ (List.mem_of_getElem? (i := 2) rfl)
theorem lw803 : Cond.instanceMethod yX3_drop ∈ LW := LW_8_in _ (List.mem_of_getElem? (i := 3) rfl)
theorem lw804 : Cond.selects RX3 yX3_drop yX3_drop ∈ LW := LW_8_in _ (List.mem_of_getElem? (i := 4) rfl)
theorem lw805 : Cond.methodLink RX11 359 yX3_follow ∈ LW := LW_8_in _ (List.mem_of_getElem? (i := 5) rfl)
theorem lw806 : Cond.instanceMethod yX3_follow ∈ LW := LW_8_in _ (List.mem_of_getElem? (i := 6) rfl)
theorem lw807 : Cond.selects RX3 yX3_follow yX3_follow ∈ LW := LW_8_in _ (List.mem_of_getElem? (i := 7) rfl)
theorem lw808 : Cond.methodLink RX11 362 yX8_take ∈ LW := LW_8_in _ (List.mem_of_getElem? (i := 8) rfl)
theorem lw809 : Cond.instanceMethod yX8_take ∈ LW := LW_8_in _ (List.mem_of_getElem? (i := 9) rfl)
theorem lw810 : Cond.selects RX8 yX8_take yX8_take ∈ LW := LW_8_in _ (List.mem_of_getElem? (i := 10) rfl)
theorem lw811 : Cond.code yX11_readAgain cX11_readAgain 2 (some .int) ∈ LW := LW_8_in _ (List.mem_of_getElem? (i := 11) rfl)
theorem lw812 : Cond.fieldLink RX11 237 "AttribArbor$TreeReader" "length" "I" ∈ LW := LW_8_in _ (List.mem_of_getElem? (i := 12) rfl)
theorem lw813 : Cond.methodLink RX11 246 yX9_putLetter ∈ LW := LW_8_in _ (List.mem_of_getElem? (i := 13) rfl)
theorem lw814 : Cond.instanceMethod yX9_putLetter ∈ LW := LW_8_in _ (List.mem_of_getElem? (i := 14) rfl)
theorem lw815 : Cond.selects RX9 yX9_putLetter yX9_putLetter ∈ LW := LW_8_in _ (List.mem_of_getElem? (i := 15) rfl)
theorem lw816 : Cond.methodLink RX11 250 yX11_readAgain ∈ LW := LW_8_in _ (List.mem_of_getElem? (i := 16) rfl)
theorem lw817 : Cond.instanceMethod yX11_readAgain ∈ LW := LW_8_in _ (List.mem_of_getElem? (i := 17) rfl)
theorem lw818 : Cond.selects RX11 yX11_readAgain yX11_readAgain ∈ LW := LW_8_in _ (List.mem_of_getElem? (i := 18) rfl)
theorem lw819 : Cond.code yX11_insert cX11_insert 3 (some .int) ∈ LW := LW_8_in _ (List.mem_of_getElem? (i := 19) rfl)
theorem lw820 : Cond.methodLink RX11 257 yX9_takeLetter ∈ LW := LW_8_in _ (List.mem_of_getElem? (i := 20) rfl)
theorem lw821 : Cond.instanceMethod yX9_takeLetter ∈ LW := LW_8_in _ (List.mem_of_getElem? (i := 21) rfl)
theorem lw822 : Cond.selects RX9 yX9_takeLetter yX9_takeLetter ∈ LW := LW_8_in _ (List.mem_of_getElem? (i := 22) rfl)
theorem lw823 : Cond.code yX11_delete cX11_delete 2 (some .int) ∈ LW := LW_8_in _ (List.mem_of_getElem? (i := 23) rfl)
theorem lw824 : Cond.code yX11_read cX11_read 1 (some .int) ∈ LW := LW_8_in _ (List.mem_of_getElem? (i := 24) rfl)
theorem lw825 : Cond.code yX11_cost cX11_cost 1 (some .int) ∈ LW := LW_8_in _ (List.mem_of_getElem? (i := 25) rfl)
theorem lw826 : Cond.fieldLink RX11 261 "AttribArbor$Tree" "repairs" "I" ∈ LW := LW_8_in _ (List.mem_of_getElem? (i := 26) rfl)
theorem lw827 : Cond.code yX11_mustBeNode cX11_mustBeNode 2 none ∈ LW := LW_8_in _ (List.mem_of_getElem? (i := 27) rfl)
theorem lw828 : Cond.methodLink RX11 264 yX11_mustBeNode ∈ LW := LW_8_in _ (List.mem_of_getElem? (i := 28) rfl)
theorem lw829 : Cond.instanceMethod yX11_mustBeNode ∈ LW := LW_8_in _ (List.mem_of_getElem? (i := 29) rfl)
theorem lw830 : Cond.selects RX11 yX11_mustBeNode yX11_mustBeNode ∈ LW := LW_8_in _ (List.mem_of_getElem? (i := 30) rfl)
theorem lw831 : Cond.methodLink RX11 267 yX8_readAsOf ∈ LW := LW_8_in _ (List.mem_of_getElem? (i := 31) rfl)
theorem lw832 : Cond.methodLink RX11 270 yX8_parentOf ∈ LW := LW_8_in _ (List.mem_of_getElem? (i := 32) rfl)
theorem lw833 : Cond.code yX11_node cX11_node 3 (some .int) ∈ LW := LW_8_in _ (List.mem_of_getElem? (i := 33) rfl)
theorem lw834 : Cond.methodLink RX11 306 yX11_slotOf ∈ LW := LW_8_in _ (List.mem_of_getElem? (i := 34) rfl)
theorem lw835 : Cond.methodLink RX11 342 yX7_valueOf ∈ LW := LW_8_in _ (List.mem_of_getElem? (i := 35) rfl)
theorem lw836 : Cond.methodLink RX11 345 yX2_find ∈ LW := LW_8_in _ (List.mem_of_getElem? (i := 36) rfl)
theorem lw837 : Cond.code yX11_foundWith cX11_foundWith 4 (some .int) ∈ LW := LW_8_in _ (List.mem_of_getElem? (i := 37) rfl)
theorem lw838 : Cond.methodLink RX11 273 yX8_nowOf ∈ LW := LW_8_in _ (List.mem_of_getElem? (i := 38) rfl)
theorem lw839 : Cond.methodLink RX11 276 yX5_ruleOtherOf ∈ LW := LW_8_in _ (List.mem_of_getElem? (i := 39) rfl)
theorem lw840 : Cond.methodLink RX11 279 yX7_settle ∈ LW := LW_8_in _ (List.mem_of_getElem? (i := 40) rfl)
theorem lw841 : Cond.instanceMethod yX7_settle ∈ LW := LW_8_in _ (List.mem_of_getElem? (i := 41) rfl)
theorem lw842 : Cond.selects RX7 yX7_settle yX7_settle ∈ LW := LW_8_in _ (List.mem_of_getElem? (i := 42) rfl)
theorem lw843 : Cond.methodLink RX11 282 yX5_ruleAttributeOf ∈ LW := LW_8_in _ (List.mem_of_getElem? (i := 43) rfl)
theorem lw844 : Cond.instanceMethod yX5_ruleAttributeOf ∈ LW := LW_8_in _ (List.mem_of_getElem? (i := 44) rfl)
theorem lw845 : Cond.selects RX5 yX5_ruleAttributeOf yX5_ruleAttributeOf ∈ LW := LW_8_in _ (List.mem_of_getElem? (i := 45) rfl)
theorem lw846 : Cond.methodLink RX11 285 yX11_foundWith ∈ LW := LW_8_in _ (List.mem_of_getElem? (i := 46) rfl)
theorem lw847 : Cond.instanceMethod yX11_foundWith ∈ LW := LW_8_in _ (List.mem_of_getElem? (i := 47) rfl)
theorem lw848 : Cond.selects RX11 yX11_foundWith yX11_foundWith ∈ LW := LW_8_in _ (List.mem_of_getElem? (i := 48) rfl)
theorem lw849 : Cond.methodLink RX11 289 yX8_rewriteTo ∈ LW := LW_8_in _ (List.mem_of_getElem? (i := 49) rfl)
theorem lw850 : Cond.methodLink RX11 292 yX11_bitOf ∈ LW := LW_8_in _ (List.mem_of_getElem? (i := 50) rfl)
theorem lw851 : Cond.code yX11_rewrite cX11_rewrite 5 (some .int) ∈ LW := LW_8_in _ (List.mem_of_getElem? (i := 51) rfl)
theorem lw852 : Cond.code yX11_value cX11_value 3 (some .int) ∈ LW := LW_8_in _ (List.mem_of_getElem? (i := 52) rfl)
theorem lw853 : Cond.code yX11_valueAnew cX11_valueAnew 3 (some .int) ∈ LW := LW_8_in _ (List.mem_of_getElem? (i := 53) rfl)
theorem lw854 : Cond.code yX11_found cX11_found 1 (some .int) ∈ LW := LW_8_in _ (List.mem_of_getElem? (i := 54) rfl)
theorem lw855 : Cond.fieldLink RX11 303 "AttribArbor$Findings" "made" "I" ∈ LW := LW_8_in _ (List.mem_of_getElem? (i := 55) rfl)
theorem lw856 : Cond.methodLink RX11 310 yX3_has ∈ LW := LW_8_in _ (List.mem_of_getElem? (i := 56) rfl)
theorem lw857 : Cond.code yX11_isKept cX11_isKept 3 (some .boolean) ∈ LW := LW_8_in _ (List.mem_of_getElem? (i := 57) rfl)
theorem lw858 : Cond.fieldLink RX11 317 "AttribArbor$Finder" "listed" "I" ∈ LW := LW_8_in _ (List.mem_of_getElem? (i := 58) rfl)
theorem lw859 : Cond.fieldLink RX11 322 "AttribArbor$Finder" "list" "[I" ∈ LW := LW_8_in _ (List.mem_of_getElem? (i := 59) rfl)
theorem lw860 : Cond.methodLink RX11 313 yX2_findListing ∈ LW := LW_8_in _ (List.mem_of_getElem? (i := 60) rfl)
theorem lw861 : Cond.instanceMethod yX2_findListing ∈ LW := LW_8_in _ (List.mem_of_getElem? (i := 61) rfl)
theorem lw862 : Cond.selects RX2 yX2_findListing yX2_findListing ∈ LW := LW_8_in _ (List.mem_of_getElem? (i := 62) rfl)
theorem lw863 : Cond.methodLink RX11 326 yX11_entryOf ∈ LW := LW_8_in _ (List.mem_of_getElem? (i := 63) rfl)
theorem lw864 : Cond.code yX11_why cX11_why 5 (some .int) ∈ LW := LW_8_in _ (List.mem_of_getElem? (i := 64) rfl)
theorem lw865 : Cond.code yL_part cL_part 4 (some .int) ∈ LW := LW_8_in _ (List.mem_of_getElem? (i := 65) rfl)
theorem lw866 : Cond.constant RL 7 (2147483647) ∈ LW := LW_8_in _ (List.mem_of_getElem? (i := 66) rfl)
theorem lw867 : Cond.classLink RL 66 "java/lang/IndexOutOfBoundsException" ∈ LW := LW_8_in _ (List.mem_of_getElem? (i := 67) rfl)
theorem lw868 : Cond.classLink RL 69 "java/lang/IllegalArgumentException" ∈ LW := LW_8_in _ (List.mem_of_getElem? (i := 68) rfl)
theorem lw869 : Cond.classLink RL 72 "java/lang/IllegalStateException" ∈ LW := LW_8_in _ (List.mem_of_getElem? (i := 69) rfl)
theorem lw870 : Cond.constant RL 68 (-3000000) ∈ LW := LW_8_in _ (List.mem_of_getElem? (i := 70) rfl)
theorem lw871 : Cond.constant RL 71 (-2000000) ∈ LW := LW_8_in _ (List.mem_of_getElem? (i := 71) rfl)
theorem lw872 : Cond.constant RL 74 (-1000000) ∈ LW := LW_8_in _ (List.mem_of_getElem? (i := 72) rfl)
theorem lw873 : Cond.methodLink RL 8 yX11_production ∈ LW := LW_8_in _ (List.mem_of_getElem? (i := 73) rfl)
theorem lw874 : Cond.instanceMethod yX11_production ∈ LW := LW_8_in _ (List.mem_of_getElem? (i := 74) rfl)
theorem lw875 : Cond.selects RX11 yX11_production yX11_production ∈ LW := LW_8_in _ (List.mem_of_getElem? (i := 75) rfl)
theorem lw876 : Cond.methodLink RL 14 yX11_forward ∈ LW := LW_8_in _ (List.mem_of_getElem? (i := 76) rfl)
theorem lw877 : Cond.instanceMethod yX11_forward ∈ LW := LW_8_in _ (List.mem_of_getElem? (i := 77) rfl)
theorem lw878 : Cond.selects RX11 yX11_forward yX11_forward ∈ LW := LW_8_in _ (List.mem_of_getElem? (i := 78) rfl)
theorem lw879 : Cond.methodLink RL 18 yX11_rule ∈ LW := LW_8_in _ (List.mem_of_getElem? (i := 79) rfl)
theorem lw880 : Cond.instanceMethod yX11_rule ∈ LW := LW_8_in _ (List.mem_of_getElem? (i := 80) rfl)
theorem lw881 : Cond.selects RX11 yX11_rule yX11_rule ∈ LW := LW_8_in _ (List.mem_of_getElem? (i := 81) rfl)
theorem lw882 : Cond.methodLink RL 22 yX11_attribute ∈ LW := LW_8_in _ (List.mem_of_getElem? (i := 82) rfl)
theorem lw883 : Cond.instanceMethod yX11_attribute ∈ LW := LW_8_in _ (List.mem_of_getElem? (i := 83) rfl)
theorem lw884 : Cond.selects RX11 yX11_attribute yX11_attribute ∈ LW := LW_8_in _ (List.mem_of_getElem? (i := 84) rfl)
theorem lw885 : Cond.methodLink RL 26 yX11_step ∈ LW := LW_8_in _ (List.mem_of_getElem? (i := 85) rfl)
theorem lw886 : Cond.instanceMethod yX11_step ∈ LW := LW_8_in _ (List.mem_of_getElem? (i := 86) rfl)
theorem lw887 : Cond.selects RX11 yX11_step yX11_step ∈ LW := LW_8_in _ (List.mem_of_getElem? (i := 87) rfl)
theorem lw888 : Cond.methodLink RL 29 yX11_equation ∈ LW := LW_8_in _ (List.mem_of_getElem? (i := 88) rfl)
theorem lw889 : Cond.instanceMethod yX11_equation ∈ LW := LW_8_in _ (List.mem_of_getElem? (i := 89) rfl)
theorem lw890 : Cond.selects RX11 yX11_equation yX11_equation ∈ LW := LW_8_in _ (List.mem_of_getElem? (i := 90) rfl)
theorem lw891 : Cond.methodLink RL 32 yX11_toggle ∈ LW := LW_8_in _ (List.mem_of_getElem? (i := 91) rfl)
theorem lw892 : Cond.instanceMethod yX11_toggle ∈ LW := LW_8_in _ (List.mem_of_getElem? (i := 92) rfl)
theorem lw893 : Cond.selects RX11 yX11_toggle yX11_toggle ∈ LW := LW_8_in _ (List.mem_of_getElem? (i := 93) rfl)
theorem lw894 : Cond.methodLink RL 36 yX11_insert ∈ LW := LW_8_in _ (List.mem_of_getElem? (i := 94) rfl)
theorem lw895 : Cond.instanceMethod yX11_insert ∈ LW := LW_8_in _ (List.mem_of_getElem? (i := 95) rfl)
theorem lw896 : Cond.selects RX11 yX11_insert yX11_insert ∈ LW := LW_8_in _ (List.mem_of_getElem? (i := 96) rfl)
theorem lw897 : Cond.methodLink RL 40 yX11_delete ∈ LW := LW_8_in _ (List.mem_of_getElem? (i := 97) rfl)
theorem lw898 : Cond.instanceMethod yX11_delete ∈ LW := LW_8_in _ (List.mem_of_getElem? (i := 98) rfl)
theorem lw899 : Cond.selects RX11 yX11_delete yX11_delete ∈ LW := LW_8_in _ (List.mem_of_getElem? (i := 99) rfl)
theorem lw900 : Cond.methodLink RL 43 yX11_read ∈ LW := LW_9_in _ (List.mem_of_getElem? (i := 0) rfl)
theorem lw901 : Cond.instanceMethod yX11_read ∈ LW := LW_9_in _ (List.mem_of_getElem? (i := 1) rfl)
theorem lw902 : Cond.selects RX11 yX11_read yX11_read ∈ LW := LW_9_in _ (List.mem_of_getElem? (i := 2) rfl)
theorem lw903 : Cond.methodLink RL 47 yX11_rewrite ∈ LW := LW_9_in _ (List.mem_of_getElem? (i := 3) rfl)
theorem lw904 : Cond.instanceMethod yX11_rewrite ∈ LW := LW_9_in _ (List.mem_of_getElem? (i := 4) rfl)
theorem lw905 : Cond.selects RX11 yX11_rewrite yX11_rewrite ∈ LW := LW_9_in _ (List.mem_of_getElem? (i := 5) rfl)
theorem lw906 : Cond.methodLink RL 50 yX11_value ∈ LW := LW_9_in _ (List.mem_of_getElem? (i := 6) rfl)
theorem lw907 : Cond.instanceMethod yX11_value ∈ LW := LW_9_in _ (List.mem_of_getElem? (i := 7) rfl)
theorem lw908 : Cond.selects RX11 yX11_value yX11_value ∈ LW := LW_9_in _ (List.mem_of_getElem? (i := 8) rfl)
theorem lw909 : Cond.methodLink RL 53 yX11_node ∈ LW := LW_9_in _ (List.mem_of_getElem? (i := 9) rfl)
theorem lw910 : Cond.instanceMethod yX11_node ∈ LW := LW_9_in _ (List.mem_of_getElem? (i := 10) rfl)
theorem lw911 : Cond.selects RX11 yX11_node yX11_node ∈ LW := LW_9_in _ (List.mem_of_getElem? (i := 11) rfl)
theorem lw912 : Cond.methodLink RL 56 yX11_why ∈ LW := LW_9_in _ (List.mem_of_getElem? (i := 12) rfl)
theorem lw913 : Cond.instanceMethod yX11_why ∈ LW := LW_9_in _ (List.mem_of_getElem? (i := 13) rfl)
theorem lw914 : Cond.selects RX11 yX11_why yX11_why ∈ LW := LW_9_in _ (List.mem_of_getElem? (i := 14) rfl)
theorem lw915 : Cond.methodLink RL 59 yX11_isKept ∈ LW := LW_9_in _ (List.mem_of_getElem? (i := 15) rfl)
theorem lw916 : Cond.instanceMethod yX11_isKept ∈ LW := LW_9_in _ (List.mem_of_getElem? (i := 16) rfl)
theorem lw917 : Cond.selects RX11 yX11_isKept yX11_isKept ∈ LW := LW_9_in _ (List.mem_of_getElem? (i := 17) rfl)
theorem lw918 : Cond.methodLink RL 63 yX11_valueAnew ∈ LW := LW_9_in _ (List.mem_of_getElem? (i := 18) rfl)
theorem lw919 : Cond.instanceMethod yX11_valueAnew ∈ LW := LW_9_in _ (List.mem_of_getElem? (i := 19) rfl)
theorem lw920 : Cond.selects RX11 yX11_valueAnew yX11_valueAnew ∈ LW := LW_9_in _ (List.mem_of_getElem? (i := 20) rfl)
theorem lw921 : Cond.codeWith yL_does cL_does 8 (some .int) [(0, 253, 254, 66), (0, 253, 259, 69), (0, 253, 264, 72)] ∈ LW := LW_9_in _ (List.mem_of_getElem? (i := 21) rfl)
theorem lw922 : Cond.code yL_symbol cL_symbol 3 (some .int) ∈ LW := LW_9_in _ (List.mem_of_getElem? (i := 22) rfl)
theorem lw923 : Cond.code yL_children cL_children 4 (some .int) ∈ LW := LW_9_in _ (List.mem_of_getElem? (i := 23) rfl)
theorem lw924 : Cond.methodLink RL 75 yL_symbol ∈ LW := LW_9_in _ (List.mem_of_getElem? (i := 24) rfl)
theorem lw925 : Cond.static yL_symbol ∈ LW := LW_9_in _ (List.mem_of_getElem? (i := 25) rfl)
theorem lw926 : Cond.initialized RL ∈ LW := LW_9_in _ (List.mem_of_getElem? (i := 26) rfl)
theorem lw927 : Cond.code yL_childOf cL_childOf 6 (some .int) ∈ LW := LW_9_in _ (List.mem_of_getElem? (i := 27) rfl)
theorem lw928 : Cond.methodLink RL 81 yX11_cost ∈ LW := LW_9_in _ (List.mem_of_getElem? (i := 28) rfl)
theorem lw929 : Cond.instanceMethod yX11_cost ∈ LW := LW_9_in _ (List.mem_of_getElem? (i := 29) rfl)
theorem lw930 : Cond.selects RX11 yX11_cost yX11_cost ∈ LW := LW_9_in _ (List.mem_of_getElem? (i := 30) rfl)
theorem lw931 : Cond.methodLink RL 84 yL_does ∈ LW := LW_9_in _ (List.mem_of_getElem? (i := 31) rfl)
theorem lw932 : Cond.static yL_does ∈ LW := LW_9_in _ (List.mem_of_getElem? (i := 32) rfl)
theorem lw933 : Cond.methodLink RL 88 yL_children ∈ LW := LW_9_in _ (List.mem_of_getElem? (i := 33) rfl)
theorem lw934 : Cond.static yL_children ∈ LW := LW_9_in _ (List.mem_of_getElem? (i := 34) rfl)
theorem lw935 : Cond.methodLink RL 92 yL_childOf ∈ LW := LW_9_in _ (List.mem_of_getElem? (i := 35) rfl)
theorem lw936 : Cond.static yL_childOf ∈ LW := LW_9_in _ (List.mem_of_getElem? (i := 36) rfl)
theorem lw937 : Cond.code yL_isTree cL_isTree 10 (some .boolean) ∈ LW := LW_9_in _ (List.mem_of_getElem? (i := 37) rfl)
theorem lw938 : Cond.methodLink RL 95 yX11_found ∈ LW := LW_9_in _ (List.mem_of_getElem? (i := 38) rfl)
theorem lw939 : Cond.instanceMethod yX11_found ∈ LW := LW_9_in _ (List.mem_of_getElem? (i := 39) rfl)
theorem lw940 : Cond.selects RX11 yX11_found yX11_found ∈ LW := LW_9_in _ (List.mem_of_getElem? (i := 40) rfl)
theorem lw941 : Cond.code yL_isTold cL_isTold 9 (some .boolean) ∈ LW := LW_9_in _ (List.mem_of_getElem? (i := 41) rfl)
theorem lw942 : Cond.code yL_areReads cL_areReads 11 (some .boolean) ∈ LW := LW_9_in _ (List.mem_of_getElem? (i := 42) rfl)
theorem lw943 : Cond.code yL_conflicts cL_conflicts 7 (some .int) ∈ LW := LW_9_in _ (List.mem_of_getElem? (i := 43) rfl)
theorem lw944 : Cond.code yL_isProduction cL_isProduction 10 (some .boolean) ∈ LW := LW_9_in _ (List.mem_of_getElem? (i := 44) rfl)
theorem lw945 : Cond.methodLink RL 98 yL_part ∈ LW := LW_9_in _ (List.mem_of_getElem? (i := 45) rfl)
theorem lw946 : Cond.static yL_part ∈ LW := LW_9_in _ (List.mem_of_getElem? (i := 46) rfl)
theorem lw947 : Cond.methodLink RL 101 yX11_dropSteps ∈ LW := LW_9_in _ (List.mem_of_getElem? (i := 47) rfl)
theorem lw948 : Cond.instanceMethod yX11_dropSteps ∈ LW := LW_9_in _ (List.mem_of_getElem? (i := 48) rfl)
theorem lw949 : Cond.selects RX11 yX11_dropSteps yX11_dropSteps ∈ LW := LW_9_in _ (List.mem_of_getElem? (i := 49) rfl)
theorem lw950 : Cond.code yL_isEquation cL_isEquation 17 (some .boolean) ∈ LW := LW_9_in _ (List.mem_of_getElem? (i := 50) rfl)
theorem lw951 : Cond.code yL_isRead cL_isRead 7 (some .boolean) ∈ LW := LW_9_in _ (List.mem_of_getElem? (i := 51) rfl)
theorem lw952 : Cond.methodLink RL 104 yL_isRead ∈ LW := LW_9_in _ (List.mem_of_getElem? (i := 52) rfl)
theorem lw953 : Cond.static yL_isRead ∈ LW := LW_9_in _ (List.mem_of_getElem? (i := 53) rfl)
theorem lw954 : Cond.code yL_isChanged cL_isChanged 9 (some .boolean) ∈ LW := LW_9_in _ (List.mem_of_getElem? (i := 54) rfl)
theorem lw955 : Cond.code yL_isRewritten cL_isRewritten 7 (some .boolean) ∈ LW := LW_9_in _ (List.mem_of_getElem? (i := 55) rfl)
theorem lw956 : Cond.constant RL 108 (60000) ∈ LW := LW_9_in _ (List.mem_of_getElem? (i := 56) rfl)
theorem lw957 : Cond.constant RL 109 (70000) ∈ LW := LW_9_in _ (List.mem_of_getElem? (i := 57) rfl)
theorem lw958 : Cond.methodLink RL 110 yL_isProduction ∈ LW := LW_9_in _ (List.mem_of_getElem? (i := 58) rfl)
theorem lw959 : Cond.static yL_isProduction ∈ LW := LW_9_in _ (List.mem_of_getElem? (i := 59) rfl)
theorem lw960 : Cond.methodLink RL 114 yL_isEquation ∈ LW := LW_9_in _ (List.mem_of_getElem? (i := 60) rfl)
theorem lw961 : Cond.static yL_isEquation ∈ LW := LW_9_in _ (List.mem_of_getElem? (i := 61) rfl)
theorem lw962 : Cond.methodLink RL 118 yL_isChanged ∈ LW := LW_9_in _ (List.mem_of_getElem? (i := 62) rfl)
theorem lw963 : Cond.static yL_isChanged ∈ LW := LW_9_in _ (List.mem_of_getElem? (i := 63) rfl)
theorem lw964 : Cond.methodLink RL 122 yL_isRewritten ∈ LW := LW_9_in _ (List.mem_of_getElem? (i := 64) rfl)
theorem lw965 : Cond.static yL_isRewritten ∈ LW := LW_9_in _ (List.mem_of_getElem? (i := 65) rfl)
theorem lw966 : Cond.methodLink RL 126 yL_isTold ∈ LW := LW_9_in _ (List.mem_of_getElem? (i := 66) rfl)
theorem lw967 : Cond.static yL_isTold ∈ LW := LW_9_in _ (List.mem_of_getElem? (i := 67) rfl)
theorem lw968 : Cond.methodLink RL 129 yL_areReads ∈ LW := LW_9_in _ (List.mem_of_getElem? (i := 68) rfl)
theorem lw969 : Cond.static yL_areReads ∈ LW := LW_9_in _ (List.mem_of_getElem? (i := 69) rfl)
theorem lw970 : Cond.code yL_isLaw cL_isLaw 15 (some .boolean) ∈ LW := LW_9_in _ (List.mem_of_getElem? (i := 70) rfl)
theorem lw971 : Cond.classLink RL 9 RX11 ∈ LW := LW_9_in _ (List.mem_of_getElem? (i := 71) rfl)
theorem lw972 : Cond.instantiable RX11 11 ∈ LW := LW_9_in _ (List.mem_of_getElem? (i := 72) rfl)
theorem lw973 : Cond.methodLink RL 132 yX11_init ∈ LW := LW_9_in _ (List.mem_of_getElem? (i := 73) rfl)
theorem lw974 : Cond.instanceMethod yX11_init ∈ LW := LW_9_in _ (List.mem_of_getElem? (i := 74) rfl)
theorem lw975 : Cond.methodLink RL 133 yX11_ringIn ∈ LW := LW_9_in _ (List.mem_of_getElem? (i := 75) rfl)
theorem lw976 : Cond.instanceMethod yX11_ringIn ∈ LW := LW_9_in _ (List.mem_of_getElem? (i := 76) rfl)
theorem lw977 : Cond.selects RX11 yX11_ringIn yX11_ringIn ∈ LW := LW_9_in _ (List.mem_of_getElem? (i := 77) rfl)
theorem lw978 : Cond.methodLink RL 136 yL_isLaw ∈ LW := LW_9_in _ (List.mem_of_getElem? (i := 78) rfl)
theorem lw979 : Cond.static yL_isLaw ∈ LW := LW_9_in _ (List.mem_of_getElem? (i := 79) rfl)
theorem lw980 : Cond.methodLink RL 140 yX11_conflicts ∈ LW := LW_9_in _ (List.mem_of_getElem? (i := 80) rfl)
theorem lw981 : Cond.instanceMethod yX11_conflicts ∈ LW := LW_9_in _ (List.mem_of_getElem? (i := 81) rfl)
theorem lw982 : Cond.selects RX11 yX11_conflicts yX11_conflicts ∈ LW := LW_9_in _ (List.mem_of_getElem? (i := 82) rfl)
theorem lw983 : Cond.methodLink RL 143 yL_conflicts ∈ LW := LW_9_in _ (List.mem_of_getElem? (i := 83) rfl)
theorem lw984 : Cond.static yL_conflicts ∈ LW := LW_9_in _ (List.mem_of_getElem? (i := 84) rfl)
theorem lw985 : Cond.methodLink RL 146 yL_isTree ∈ LW := LW_9_in _ (List.mem_of_getElem? (i := 85) rfl)
theorem lw986 : Cond.static yL_isTree ∈ LW := LW_9_in _ (List.mem_of_getElem? (i := 86) rfl)
theorem LW_0_good : ∀ w ∈ LW_0, goodWord w = true := List.all_eq_true.mp (by decide +kernel)
theorem LW_1_good : ∀ w ∈ LW_1, goodWord w = true := List.all_eq_true.mp (by decide +kernel)
theorem LW_2_good : ∀ w ∈ LW_2, goodWord w = true := List.all_eq_true.mp (by decide +kernel)
theorem LW_3_good : ∀ w ∈ LW_3, goodWord w = true := List.all_eq_true.mp (by decide +kernel)
theorem LW_4_good : ∀ w ∈ LW_4, goodWord w = true := List.all_eq_true.mp (by decide +kernel)
theorem LW_5_good : ∀ w ∈ LW_5, goodWord w = true := List.all_eq_true.mp (by decide +kernel)
theorem LW_6_good : ∀ w ∈ LW_6, goodWord w = true := List.all_eq_true.mp (by decide +kernel)
theorem LW_7_good : ∀ w ∈ LW_7, goodWord w = true := List.all_eq_true.mp (by decide +kernel)
theorem LW_8_good : ∀ w ∈ LW_8, goodWord w = true := List.all_eq_true.mp (by decide +kernel)
theorem LW_9_good : ∀ w ∈ LW_9, goodWord w = true := List.all_eq_true.mp (by decide +kernel)
theorem LW_10_good : ∀ w ∈ LW_10, goodWord w = true := List.all_eq_true.mp (by decide +kernel)
theorem LW_good : ∀ w ∈ LW, goodWord w = true := fun w h => (List.mem_append.mp h).elim (LW_0_good w) (fun h => (List.mem_append.mp h).elim (LW_1_good w) (fun h => (List.mem_append.mp h).elim (LW_2_good w) (fun h => (List.mem_append.mp h).elim (LW_3_good w) (fun h => (List.mem_append.mp h).elim (LW_4_good w) (fun h => (List.mem_append.mp h).elim (LW_5_good w) (fun h => (List.mem_append.mp h).elim (LW_6_good w) (fun h => (List.mem_append.mp h).elim (LW_7_good w) (fun h => (List.mem_append.mp h).elim (LW_8_good w) (fun h => (List.mem_append.mp h).elim (LW_9_good w) (fun h => LW_10_good w h))))))))))
theorem inLX0 : ∀ w ∈ wsX00, w ∈ LW := fun w h => LW_10_in w (List.mem_append_left _ h)
theorem fcw0 : ∀ w ∈ u_ws RX0 TX0 13, w ∈ LW := inLX0
theorem inLX1 : ∀ w ∈ wsX10, w ∈ LW := fun w h => LW_10_in w (List.mem_append_right _ (List.mem_append_left _ h))
theorem fcw1 : ∀ w ∈ u_ws RX1 TX1 10, w ∈ LW := inLX1
theorem inLX2 : ∀ w ∈ wsX20, w ∈ LW := fun w h => LW_10_in w (List.mem_append_right _ (List.mem_append_right _ (List.mem_append_left _ h)))
theorem fcw2 : ∀ w ∈ u_ws RX2 TX2 13, w ∈ LW := inLX2
theorem inLX3 : ∀ w ∈ wsX30, w ∈ LW := fun w h => LW_10_in w (List.mem_append_right _ (List.mem_append_right _ (List.mem_append_right _ (List.mem_append_left _ h))))
theorem fcw3 : ∀ w ∈ u_ws RX3 TX3 5, w ∈ LW := inLX3
theorem inLX4 : ∀ w ∈ wsX40, w ∈ LW := fun w h => LW_10_in w (List.mem_append_right _ (List.mem_append_right _ (List.mem_append_right _ (List.mem_append_right _ (List.mem_append_left _ h)))))
theorem fcw4 : ∀ w ∈ u_ws RX4 TX4 14, w ∈ LW := inLX4
theorem inLX5 : ∀ w ∈ wsX50, w ∈ LW := fun w h => LW_10_in w (List.mem_append_right _ (List.mem_append_right _ (List.mem_append_right _ (List.mem_append_right _ (List.mem_append_right _ (List.mem_append_left _ h))))))
theorem fcw5 : ∀ w ∈ u_ws RX5 TX5 14, w ∈ LW := inLX5
theorem inLX6 : ∀ w ∈ wsX60, w ∈ LW := fun w h => LW_10_in w (List.mem_append_right _ (List.mem_append_right _ (List.mem_append_right _ (List.mem_append_right _ (List.mem_append_right _ (List.mem_append_right _ (List.mem_append_left _ h)))))))
theorem fcw6 : ∀ w ∈ u_ws RX6 TX6 5, w ∈ LW := inLX6
theorem inLX7 : ∀ w ∈ wsX70, w ∈ LW := fun w h => LW_10_in w (List.mem_append_right _ (List.mem_append_right _ (List.mem_append_right _ (List.mem_append_right _ (List.mem_append_right _ (List.mem_append_right _ (List.mem_append_right _ (List.mem_append_left _ h))))))))
theorem fcw7 : ∀ w ∈ u_ws RX7 TX7 7, w ∈ LW := inLX7
theorem inLX8 : ∀ w ∈ wsX80, w ∈ LW := fun w h => LW_10_in w (List.mem_append_right _ (List.mem_append_right _ (List.mem_append_right _ (List.mem_append_right _ (List.mem_append_right _ (List.mem_append_right _ (List.mem_append_right _ (List.mem_append_right _ (List.mem_append_left _ h)))))))))
theorem fcw8 : ∀ w ∈ u_ws RX8 TX8 9, w ∈ LW := inLX8
theorem inLX9 : ∀ w ∈ wsX90, w ∈ LW := fun w h => LW_10_in w (List.mem_append_right _ (List.mem_append_right _ (List.mem_append_right _ (List.mem_append_right _ (List.mem_append_right _ (List.mem_append_right _ (List.mem_append_right _ (List.mem_append_right _ (List.mem_append_right _ (List.mem_append_left _ h))))))))))
theorem fcw9 : ∀ w ∈ u_ws RX9 TX9 13, w ∈ LW := inLX9
theorem inLX10 : ∀ w ∈ wsX100, w ∈ LW := fun w h => LW_10_in w (List.mem_append_right _ (List.mem_append_right _ (List.mem_append_right _ (List.mem_append_right _ (List.mem_append_right _ (List.mem_append_right _ (List.mem_append_right _ (List.mem_append_right _ (List.mem_append_right _ (List.mem_append_right _ (List.mem_append_left _ h)))))))))))
theorem fcw10 : ∀ w ∈ u_ws RX10 TX10 3, w ∈ LW := inLX10
theorem inLX11 : ∀ w ∈ wsX110, w ∈ LW := fun w h => LW_10_in w (List.mem_append_right _ (List.mem_append_right _ (List.mem_append_right _ (List.mem_append_right _ (List.mem_append_right _ (List.mem_append_right _ (List.mem_append_right _ (List.mem_append_right _ (List.mem_append_right _ (List.mem_append_right _ (List.mem_append_right _ (h))))))))))))
theorem fcw11 : ∀ w ∈ u_ws RX11 TX11 11, w ∈ LW := inLX11
abbrev vwCl : List vw_C := [(RX0, TX0, 13), (RX1, TX1, 10), (RX2, TX2, 13), (RX3, TX3, 5), (RX4, TX4, 14), (RX5, TX5, 14), (RX6, TX6, 5), (RX7, TX7, 7), (RX8, TX8, 9), (RX9, TX9, 13), (RX10, TX10, 3), (RX11, TX11, 11)]
abbrev Nst : Type := String × Nat × MethodName × String
def NL : List Nst := [("AttribArbor", 11, ⟨"AttribArbor$Grammar", "<init>", "()V"⟩, "AttribArbor"), ("AttribArbor", 18, ⟨"AttribArbor$Equation", "<init>", "()V"⟩, "AttribArbor"), ("AttribArbor$Equations", 45, ⟨"AttribArbor$Equation", "<init>", "()V"⟩, "AttribArbor"), ("AttribArbor", 46, ⟨"AttribArbor$Tree", "<init>", "()V"⟩, "AttribArbor"), ("AttribArbor", 56, ⟨"AttribArbor$Findings", "<init>", "()V"⟩, "AttribArbor"), ("AttribArbor$Finder", 44, ⟨"AttribArbor$Frame", "<init>", "()V"⟩, "AttribArbor"), ("AttribArbor$Equations", 99, ⟨"AttribArbor", "entryOf", "([II)I"⟩, "AttribArbor"), ("AttribArbor$HangGraph", 30, ⟨"AttribArbor", "fillRow", "([II)V"⟩, "AttribArbor"), ("AttribArbor$HangGraph", 52, ⟨"AttribArbor", "entryOf", "([II)I"⟩, "AttribArbor"), ("AttribArbor$HangGraph", 56, ⟨"AttribArbor", "setEntry", "([III)V"⟩, "AttribArbor"), ("AttribArbor$Grammar", 64, ⟨"AttribArbor", "entryOf", "([II)I"⟩, "AttribArbor"), ("AttribArbor$Grammar", 52, ⟨"AttribArbor", "setEntry", "([III)V"⟩, "AttribArbor"), ("AttribArbor$Views", 22, ⟨"AttribArbor", "fillRow", "([II)V"⟩, "AttribArbor"), ("AttribArbor$Views", 35, ⟨"AttribArbor", "setEntry", "([III)V"⟩, "AttribArbor"), ("AttribArbor$Equations", 62, ⟨"AttribArbor", "fillRow", "([II)V"⟩, "AttribArbor"), ("AttribArbor$Equations", 103, ⟨"AttribArbor", "setEntry", "([III)V"⟩, "AttribArbor"), ("AttribArbor$Findings", 32, ⟨"AttribArbor", "fillRow", "([II)V"⟩, "AttribArbor"), ("AttribArbor$Equation", 33, ⟨"AttribArbor", "operandsOf", "(I)I"⟩, "AttribArbor"), ("AttribArbor$Equation", 44, ⟨"AttribArbor", "entryOf", "([II)I"⟩, "AttribArbor"), ("AttribArbor$Equation", 48, ⟨"AttribArbor", "setEntry", "([III)V"⟩, "AttribArbor"), ("AttribArbor$Equation", 68, ⟨"AttribArbor", "copyRow", "([I[I)V"⟩, "AttribArbor"), ("AttribArbor$TreeReader", 47, ⟨"AttribArbor", "entryOf", "([II)I"⟩, "AttribArbor"), ("AttribArbor$TreeReader", 51, ⟨"AttribArbor", "setEntry", "([III)V"⟩, "AttribArbor"), ("AttribArbor$TreeReader", 76, ⟨"AttribArbor", "fillRow", "([II)V"⟩, "AttribArbor"), ("AttribArbor$Tree", 40, ⟨"AttribArbor", "setEntry", "([III)V"⟩, "AttribArbor"), ("AttribArbor$Tree", 48, ⟨"AttribArbor", "entryOf", "([II)I"⟩, "AttribArbor"), ("AttribArbor$Tree", 80, ⟨"AttribArbor", "bitOf", "(I)I"⟩, "AttribArbor"), ("AttribArbor$Findings", 36, ⟨"AttribArbor", "entryOf", "([II)I"⟩, "AttribArbor"), ("AttribArbor$Findings", 24, ⟨"AttribArbor", "setEntry", "([III)V"⟩, "AttribArbor"), ("AttribArbor$Findings", 50, ⟨"AttribArbor", "slotOf", "(II)I"⟩, "AttribArbor"), ("AttribArbor$Findings", 71, ⟨"AttribArbor", "bitOf", "(I)I"⟩, "AttribArbor"), ("AttribArbor$Findings", 67, ⟨"AttribArbor", "copyRow", "([I[I)V"⟩, "AttribArbor"), ("AttribArbor$Tree", 83, ⟨"AttribArbor", "copyRow", "([I[I)V"⟩, "AttribArbor"), ("AttribArbor$Rings", 42, ⟨"AttribArbor", "fillRow", "([II)V"⟩, "AttribArbor"), ("AttribArbor$Finder", 57, ⟨"AttribArbor", "slotOf", "(II)I"⟩, "AttribArbor"), ("AttribArbor$Finder", 111, ⟨"AttribArbor", "bitOf", "(I)I"⟩, "AttribArbor"), ("AttribArbor$Finder", 252, ⟨"AttribArbor", "entryOf", "([II)I"⟩, "AttribArbor"), ("AttribArbor$Frame", 45, ⟨"AttribArbor", "setEntry", "([III)V"⟩, "AttribArbor"), ("AttribArbor$Rings", 73, ⟨"AttribArbor", "setEntry", "([III)V"⟩, "AttribArbor"), ("AttribArbor$Rings", 38, ⟨"AttribArbor", "entryOf", "([II)I"⟩, "AttribArbor"), ("AttribArbor$Rings", 80, ⟨"AttribArbor", "copyRow", "([I[I)V"⟩, "AttribArbor")]
