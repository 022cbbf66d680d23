def RX0 : String := "NeighbourBoard$Answer"
def TX0 : u_T := fun k => match k with
  | 0 => ("NeighbourBoard$Answer", "weights", "[LNeighbourBoard$Whole;", true)
  | 1 => ("NeighbourBoard$Answer", "guess", "LNeighbourBoard$Whole;", true)
  | 2 => ("NeighbourBoard$Answer", "price", "LNeighbourBoard$Whole;", true)
  | 3 => ("NeighbourBoard$Answer", "bottom", "LNeighbourBoard$Whole;", true)
  | 4 => ("NeighbourBoard$Answer", "spread", "LNeighbourBoard$Whole;", true)
  | 5 => ("NeighbourBoard$Answer", "spreadBottom", "LNeighbourBoard$Whole;", true)
  | _ => ("NeighbourBoard$Answer", "there", "Z", false)
def tyX0 : Nat → FieldType := fun k => match k with
  | 0 => .array (.object "NeighbourBoard$Whole")
  | 1 => .object "NeighbourBoard$Whole"
  | 2 => .object "NeighbourBoard$Whole"
  | 3 => .object "NeighbourBoard$Whole"
  | 4 => .object "NeighbourBoard$Whole"
  | 5 => .object "NeighbourBoard$Whole"
  | _ => .boolean
abbrev wsX00 : List Cond := u_ws RX0 TX0 7
theorem nmX0 : ∀ a, a < 7 → ∀ b, b < 7 → a ≠ b → (TX0 a).2.1 ≠ (TX0 b).2.1 := by decide +kernel
theorem tyX0_ok : ∀ k, k < 7 → parseFieldDescriptor (TX0 k).2.2.1 = some (tyX0 k) := by decide +kernel
abbrev cX0_init : ByteArray := prog_2_method_1_code
def yX0_init : MethodName := ⟨RX0, "<init>", "()V"⟩
abbrev cX0_take : ByteArray := prog_2_method_2_code
def yX0_take : MethodName := ⟨RX0, "take", "(LNeighbourBoard$Equations;LNeighbourBoard$Grid;LNeighbourBoard$Sights;I)V"⟩
abbrev cX0_takeWeights : ByteArray := prog_2_method_3_code
def yX0_takeWeights : MethodName := ⟨RX0, "takeWeights", "(LNeighbourBoard$Equations;LNeighbourBoard$Grid;)V"⟩
def RX1 : String := "NeighbourBoard$Divider"
def TX1 : u_T := fun k => match k with
  | 0 => ("NeighbourBoard$Divider", "rest", "[I", true)
  | 1 => ("NeighbourBoard$Divider", "by", "[I", true)
  | 2 => ("NeighbourBoard$Divider", "length", "I", false)
  | _ => ("NeighbourBoard$Divider", "scale", "J", false)
def tyX1 : Nat → FieldType := fun k => match k with
  | 0 => .array .int
  | 1 => .array .int
  | 2 => .int
  | _ => .long
abbrev wsX10 : List Cond := u_ws RX1 TX1 4
theorem nmX1 : ∀ a, a < 4 → ∀ b, b < 4 → a ≠ b → (TX1 a).2.1 ≠ (TX1 b).2.1 := by decide +kernel
theorem tyX1_ok : ∀ k, k < 4 → parseFieldDescriptor (TX1 k).2.2.1 = some (tyX1 k) := by decide +kernel
abbrev cX1_init : ByteArray := prog_3_method_1_code
def yX1_init : MethodName := ⟨RX1, "<init>", "()V"⟩
abbrev cX1_divide : ByteArray := prog_3_method_2_code
def yX1_divide : MethodName := ⟨RX1, "divide", "(LNeighbourBoard$Whole;LNeighbourBoard$Whole;LNeighbourBoard$Whole;)V"⟩
abbrev cX1_takeRest : ByteArray := prog_3_method_3_code
def yX1_takeRest : MethodName := ⟨RX1, "takeRest", "(LNeighbourBoard$Whole;)V"⟩
abbrev cX1_divideByPart : ByteArray := prog_3_method_4_code
def yX1_divideByPart : MethodName := ⟨RX1, "divideByPart", "(LNeighbourBoard$Whole;JLNeighbourBoard$Whole;)V"⟩
abbrev cX1_copyScaled : ByteArray := prog_3_method_5_code
def yX1_copyScaled : MethodName := ⟨RX1, "copyScaled", "(LNeighbourBoard$Whole;[II)V"⟩
abbrev cX1_guessPart : ByteArray := prog_3_method_6_code
def yX1_guessPart : MethodName := ⟨RX1, "guessPart", "(I)J"⟩
abbrev cX1_takeAway : ByteArray := prog_3_method_7_code
def yX1_takeAway : MethodName := ⟨RX1, "takeAway", "(IJ)Z"⟩
abbrev cX1_giveBack : ByteArray := prog_3_method_8_code
def yX1_giveBack : MethodName := ⟨RX1, "giveBack", "(I)V"⟩
def RX2 : String := "NeighbourBoard$Equations"
def TX2 : u_T := fun k => match k with
  | 0 => ("NeighbourBoard$Equations", "chosen", "[I", true)
  | 1 => ("NeighbourBoard$Equations", "apart", "[I", true)
  | 2 => ("NeighbourBoard$Equations", "reach", "[I", true)
  | 3 => ("NeighbourBoard$Equations", "sums", "[I", true)
  | 4 => ("NeighbourBoard$Equations", "size", "I", false)
  | _ => ("NeighbourBoard$Equations", "askedFor", "I", false)
def tyX2 : Nat → FieldType := fun k => match k with
  | 0 => .array .int
  | 1 => .array .int
  | 2 => .array .int
  | 3 => .array .int
  | 4 => .int
  | _ => .int
abbrev wsX20 : List Cond := u_ws RX2 TX2 6
theorem nmX2 : ∀ a, a < 6 → ∀ b, b < 6 → a ≠ b → (TX2 a).2.1 ≠ (TX2 b).2.1 := by decide +kernel
theorem tyX2_ok : ∀ k, k < 6 → parseFieldDescriptor (TX2 k).2.2.1 = some (tyX2 k) := by decide +kernel
abbrev cX2_init : ByteArray := prog_4_method_1_code
def yX2_init : MethodName := ⟨RX2, "<init>", "()V"⟩
abbrev cX2_unknowns : ByteArray := prog_4_method_2_code
def yX2_unknowns : MethodName := ⟨RX2, "unknowns", "()I"⟩
abbrev cX2_chooseAllBut : ByteArray := prog_4_method_3_code
def yX2_chooseAllBut : MethodName := ⟨RX2, "chooseAllBut", "(II)V"⟩
abbrev cX2_chooseNearest : ByteArray := prog_4_method_4_code
def yX2_chooseNearest : MethodName := ⟨RX2, "chooseNearest", "(LNeighbourBoard$Places;LNeighbourBoard$Places;I)V"⟩
abbrev cX2_countNearer : ByteArray := prog_4_method_5_code
def yX2_countNearer : MethodName := ⟨RX2, "countNearer", "(II)I"⟩
abbrev cX2_prepare : ByteArray := prog_4_method_6_code
def yX2_prepare : MethodName := ⟨RX2, "prepare", "(LNeighbourBoard$Sights;LNeighbourBoard$Places;LNeighbourBoard$Laws;ILNeighbourBoard$Grid;)V"⟩
abbrev cX2_measure : ByteArray := prog_4_method_7_code
def yX2_measure : MethodName := ⟨RX2, "measure", "(LNeighbourBoard$Sights;LNeighbourBoard$Laws;IZ)V"⟩
abbrev cX2_reachOut : ByteArray := prog_4_method_8_code
def yX2_reachOut : MethodName := ⟨RX2, "reachOut", "(LNeighbourBoard$Places;LNeighbourBoard$Places;LNeighbourBoard$Laws;I)V"⟩
abbrev cX2_unlikeWithin : ByteArray := prog_4_method_9_code
def yX2_unlikeWithin : MethodName := ⟨RX2, "unlikeWithin", "(LNeighbourBoard$Places;LNeighbourBoard$Laws;I)I"⟩
abbrev cX2_fillSquare : ByteArray := prog_4_method_10_code
def yX2_fillSquare : MethodName := ⟨RX2, "fillSquare", "(LNeighbourBoard$Grid;)V"⟩
abbrev cX2_fillRight : ByteArray := prog_4_method_11_code
def yX2_fillRight : MethodName := ⟨RX2, "fillRight", "(LNeighbourBoard$Grid;)V"⟩
abbrev cX2_tellOff : ByteArray := prog_4_method_12_code
def yX2_tellOff : MethodName := ⟨RX2, "tellOff", "(LNeighbourBoard$Grid;LNeighbourBoard$Sights;ILNeighbourBoard$Fraction;)V"⟩
def RX3 : String := "NeighbourBoard$Fraction"
def TX3 : u_T := fun k => match k with
  | 0 => ("NeighbourBoard$Fraction", "top", "LNeighbourBoard$Whole;", true)
  | _ => ("NeighbourBoard$Fraction", "bottom", "LNeighbourBoard$Whole;", true)
def tyX3 : Nat → FieldType := fun k => match k with
  | 0 => .object "NeighbourBoard$Whole"
  | _ => .object "NeighbourBoard$Whole"
abbrev wsX30 : List Cond := u_ws RX3 TX3 2
theorem nmX3 : ∀ a, a < 2 → ∀ b, b < 2 → a ≠ b → (TX3 a).2.1 ≠ (TX3 b).2.1 := by decide +kernel
theorem tyX3_ok : ∀ k, k < 2 → parseFieldDescriptor (TX3 k).2.2.1 = some (tyX3 k) := by decide +kernel
abbrev cX3_init : ByteArray := prog_5_method_1_code
def yX3_init : MethodName := ⟨RX3, "<init>", "()V"⟩
abbrev cX3_copyFrom : ByteArray := prog_5_method_2_code
def yX3_copyFrom : MethodName := ⟨RX3, "copyFrom", "(LNeighbourBoard$Fraction;)V"⟩
def RX4 : String := "NeighbourBoard$Grid"
def TX4 : u_T := fun k => match k with
  | 0 => ("NeighbourBoard$Grid", "cells", "[LNeighbourBoard$Whole;", true)
  | 1 => ("NeighbourBoard$Grid", "outside", "LNeighbourBoard$Whole;", true)
  | 2 => ("NeighbourBoard$Grid", "bottom", "LNeighbourBoard$Whole;", true)
  | 3 => ("NeighbourBoard$Grid", "product", "LNeighbourBoard$Whole;", true)
  | 4 => ("NeighbourBoard$Grid", "otherProduct", "LNeighbourBoard$Whole;", true)
  | _ => ("NeighbourBoard$Grid", "divider", "LNeighbourBoard$Divider;", true)
def tyX4 : Nat → FieldType := fun k => match k with
  | 0 => .array (.object "NeighbourBoard$Whole")
  | 1 => .object "NeighbourBoard$Whole"
  | 2 => .object "NeighbourBoard$Whole"
  | 3 => .object "NeighbourBoard$Whole"
  | 4 => .object "NeighbourBoard$Whole"
  | _ => .object "NeighbourBoard$Divider"
abbrev wsX40 : List Cond := u_ws RX4 TX4 6
theorem nmX4 : ∀ a, a < 6 → ∀ b, b < 6 → a ≠ b → (TX4 a).2.1 ≠ (TX4 b).2.1 := by decide +kernel
theorem tyX4_ok : ∀ k, k < 6 → parseFieldDescriptor (TX4 k).2.2.1 = some (tyX4 k) := by decide +kernel
abbrev cX4_init : ByteArray := prog_6_method_1_code
def yX4_init : MethodName := ⟨RX4, "<init>", "()V"⟩
abbrev cX4_cell : ByteArray := prog_6_method_2_code
def yX4_cell : MethodName := ⟨RX4, "cell", "(II)LNeighbourBoard$Whole;"⟩
abbrev cX4_put : ByteArray := prog_6_method_3_code
def yX4_put : MethodName := ⟨RX4, "put", "(IIJ)V"⟩
abbrev cX4_solve : ByteArray := prog_6_method_4_code
def yX4_solve : MethodName := ⟨RX4, "solve", "(I)Z"⟩
abbrev cX4_judge : ByteArray := prog_6_method_5_code
def yX4_judge : MethodName := ⟨RX4, "judge", "(I)I"⟩
abbrev cX4_isZeroBehind : ByteArray := prog_6_method_6_code
def yX4_isZeroBehind : MethodName := ⟨RX4, "isZeroBehind", "(II)Z"⟩
abbrev cX4_bringPivot : ByteArray := prog_6_method_7_code
def yX4_bringPivot : MethodName := ⟨RX4, "bringPivot", "(II)Z"⟩
abbrev cX4_clearColumn : ByteArray := prog_6_method_8_code
def yX4_clearColumn : MethodName := ⟨RX4, "clearColumn", "(IIII)V"⟩
def RX5 : String := "NeighbourBoard$Laws"
def TX5 : u_T := fun k => match k with
  | 0 => ("NeighbourBoard$Laws", "tells", "[I", true)
  | _ => ("NeighbourBoard$Laws", "size", "I", false)
def tyX5 : Nat → FieldType := fun k => match k with
  | 0 => .array .int
  | _ => .int
abbrev wsX50 : List Cond := u_ws RX5 TX5 2
theorem nmX5 : ∀ a, a < 2 → ∀ b, b < 2 → a ≠ b → (TX5 a).2.1 ≠ (TX5 b).2.1 := by decide +kernel
theorem tyX5_ok : ∀ k, k < 2 → parseFieldDescriptor (TX5 k).2.2.1 = some (tyX5 k) := by decide +kernel
abbrev cX5_init : ByteArray := prog_7_method_1_code
def yX5_init : MethodName := ⟨RX5, "<init>", "()V"⟩
abbrev cX5_has : ByteArray := prog_7_method_2_code
def yX5_has : MethodName := ⟨RX5, "has", "(I)Z"⟩
abbrev cX5_isFull : ByteArray := prog_7_method_3_code
def yX5_isFull : MethodName := ⟨RX5, "isFull", "()Z"⟩
abbrev cX5_tell : ByteArray := prog_7_method_4_code
def yX5_tell : MethodName := ⟨RX5, "tell", "(II)I"⟩
abbrev cX5_draft : ByteArray := prog_7_method_5_code
def yX5_draft : MethodName := ⟨RX5, "draft", "(II)V"⟩
abbrev cX5_draftSlope : ByteArray := prog_7_method_6_code
def yX5_draftSlope : MethodName := ⟨RX5, "draftSlope", "(II)V"⟩
abbrev cX5_draftBoth : ByteArray := prog_7_method_7_code
def yX5_draftBoth : MethodName := ⟨RX5, "draftBoth", "(II)Z"⟩
abbrev cX5_keepDraft : ByteArray := prog_7_method_8_code
def yX5_keepDraft : MethodName := ⟨RX5, "keepDraft", "()I"⟩
def RX6 : String := "NeighbourBoard$Places"
def TX6 : u_T := fun k => match k with
  | 0 => ("NeighbourBoard$Places", "xs", "[I", true)
  | 1 => ("NeighbourBoard$Places", "ys", "[I", true)
  | _ => ("NeighbourBoard$Places", "size", "I", false)
def tyX6 : Nat → FieldType := fun k => match k with
  | 0 => .array .int
  | 1 => .array .int
  | _ => .int
abbrev wsX60 : List Cond := u_ws RX6 TX6 3
theorem nmX6 : ∀ a, a < 3 → ∀ b, b < 3 → a ≠ b → (TX6 a).2.1 ≠ (TX6 b).2.1 := by decide +kernel
theorem tyX6_ok : ∀ k, k < 3 → parseFieldDescriptor (TX6 k).2.2.1 = some (tyX6 k) := by decide +kernel
abbrev cX6_init : ByteArray := prog_8_method_1_code
def yX6_init : MethodName := ⟨RX6, "<init>", "(I)V"⟩
abbrev cX6_clear : ByteArray := prog_8_method_2_code
def yX6_clear : MethodName := ⟨RX6, "clear", "()V"⟩
abbrev cX6_has : ByteArray := prog_8_method_3_code
def yX6_has : MethodName := ⟨RX6, "has", "(I)Z"⟩
abbrev cX6_holds : ByteArray := prog_8_method_4_code
def yX6_holds : MethodName := ⟨RX6, "holds", "(II)Z"⟩
abbrev cX6_add : ByteArray := prog_8_method_5_code
def yX6_add : MethodName := ⟨RX6, "add", "(II)V"⟩
abbrev cX6_remove : ByteArray := prog_8_method_6_code
def yX6_remove : MethodName := ⟨RX6, "remove", "(I)V"⟩
abbrev cX6_way : ByteArray := prog_8_method_7_code
def yX6_way : MethodName := ⟨RX6, "way", "(II)I"⟩
abbrev cX6_wayTo : ByteArray := prog_8_method_8_code
def yX6_wayTo : MethodName := ⟨RX6, "wayTo", "(III)I"⟩
def RX7 : String := "NeighbourBoard$Sights"
def TX7 : u_T := fun k => match k with
  | 0 => ("NeighbourBoard$Sights", "places", "LNeighbourBoard$Places;", true)
  | 1 => ("NeighbourBoard$Sights", "numbers", "[I", true)
  | _ => ("NeighbourBoard$Sights", "doubts", "[I", true)
def tyX7 : Nat → FieldType := fun k => match k with
  | 0 => .object "NeighbourBoard$Places"
  | 1 => .array .int
  | _ => .array .int
abbrev wsX70 : List Cond := u_ws RX7 TX7 3
theorem nmX7 : ∀ a, a < 3 → ∀ b, b < 3 → a ≠ b → (TX7 a).2.1 ≠ (TX7 b).2.1 := by decide +kernel
theorem tyX7_ok : ∀ k, k < 3 → parseFieldDescriptor (TX7 k).2.2.1 = some (tyX7 k) := by decide +kernel
abbrev cX7_init : ByteArray := prog_9_method_1_code
def yX7_init : MethodName := ⟨RX7, "<init>", "()V"⟩
abbrev cX7_add : ByteArray := prog_9_method_2_code
def yX7_add : MethodName := ⟨RX7, "add", "(IIII)V"⟩
abbrev cX7_remove : ByteArray := prog_9_method_3_code
def yX7_remove : MethodName := ⟨RX7, "remove", "(I)V"⟩
def RX8 : String := "NeighbourBoard$Slots"
def TX8 : u_T := fun k => match k with
  | 0 => ("NeighbourBoard$Slots", "numbers", "[J", true)
  | 1 => ("NeighbourBoard$Slots", "widths", "[I", true)
  | 2 => ("NeighbourBoard$Slots", "lengths", "[I", true)
  | 3 => ("NeighbourBoard$Slots", "reading", "I", false)
  | 4 => ("NeighbourBoard$Slots", "at", "I", false)
  | 5 => ("NeighbourBoard$Slots", "value", "I", false)
  | 6 => ("NeighbourBoard$Slots", "x", "I", false)
  | 7 => ("NeighbourBoard$Slots", "y", "I", false)
  | _ => ("NeighbourBoard$Slots", "refusal", "I", false)
def tyX8 : Nat → FieldType := fun k => match k with
  | 0 => .array .long
  | 1 => .array .int
  | 2 => .array .int
  | 3 => .int
  | 4 => .int
  | 5 => .int
  | 6 => .int
  | 7 => .int
  | _ => .int
abbrev wsX80 : List Cond := u_ws RX8 TX8 9
theorem nmX8 : ∀ a, a < 9 → ∀ b, b < 9 → a ≠ b → (TX8 a).2.1 ≠ (TX8 b).2.1 := by decide +kernel
theorem tyX8_ok : ∀ k, k < 9 → parseFieldDescriptor (TX8 k).2.2.1 = some (tyX8 k) := by decide +kernel
abbrev cX8_init : ByteArray := prog_10_method_1_code
def yX8_init : MethodName := ⟨RX8, "<init>", "()V"⟩
abbrev cX8_exists : ByteArray := prog_10_method_2_code
def yX8_exists : MethodName := ⟨RX8, "exists", "(I)Z"⟩
abbrev cX8_holds : ByteArray := prog_10_method_3_code
def yX8_holds : MethodName := ⟨RX8, "holds", "(I)Z"⟩
abbrev cX8_holdsNumber : ByteArray := prog_10_method_4_code
def yX8_holdsNumber : MethodName := ⟨RX8, "holdsNumber", "(II)Z"⟩
abbrev cX8_lay : ByteArray := prog_10_method_5_code
def yX8_lay : MethodName := ⟨RX8, "lay", "(III)V"⟩
abbrev cX8_empty : ByteArray := prog_10_method_6_code
def yX8_empty : MethodName := ⟨RX8, "empty", "(I)V"⟩
abbrev cX8_put : ByteArray := prog_10_method_7_code
def yX8_put : MethodName := ⟨RX8, "put", "(IIJ)Z"⟩
abbrev cX8_countHeld : ByteArray := prog_10_method_8_code
def yX8_countHeld : MethodName := ⟨RX8, "countHeld", "()I"⟩
abbrev cX8_startReading : ByteArray := prog_10_method_9_code
def yX8_startReading : MethodName := ⟨RX8, "startReading", "(I)V"⟩
abbrev cX8_readNext : ByteArray := prog_10_method_10_code
def yX8_readNext : MethodName := ⟨RX8, "readNext", "(II)Z"⟩
abbrev cX8_readPlace : ByteArray := prog_10_method_11_code
def yX8_readPlace : MethodName := ⟨RX8, "readPlace", "()Z"⟩
abbrev cX8_cut : ByteArray := prog_10_method_12_code
def yX8_cut : MethodName := ⟨RX8, "cut", "(JI)J"⟩
def RX9 : String := "NeighbourBoard$Whole"
def TX9 : u_T := fun k => match k with
  | 0 => ("NeighbourBoard$Whole", "parts", "[I", true)
  | 1 => ("NeighbourBoard$Whole", "size", "I", false)
  | _ => ("NeighbourBoard$Whole", "sign", "I", false)
def tyX9 : Nat → FieldType := fun k => match k with
  | 0 => .array .int
  | 1 => .int
  | _ => .int
abbrev wsX90 : List Cond := u_ws RX9 TX9 3
theorem nmX9 : ∀ a, a < 3 → ∀ b, b < 3 → a ≠ b → (TX9 a).2.1 ≠ (TX9 b).2.1 := by decide +kernel
theorem tyX9_ok : ∀ k, k < 3 → parseFieldDescriptor (TX9 k).2.2.1 = some (tyX9 k) := by decide +kernel
abbrev cX9_init : ByteArray := prog_11_method_1_code
def yX9_init : MethodName := ⟨RX9, "<init>", "()V"⟩
abbrev cX9_put : ByteArray := prog_11_method_2_code
def yX9_put : MethodName := ⟨RX9, "put", "(J)V"⟩
abbrev cX9_lowest : ByteArray := prog_11_method_3_code
def yX9_lowest : MethodName := ⟨RX9, "lowest", "()J"⟩
abbrev cX9_copyFrom : ByteArray := prog_11_method_4_code
def yX9_copyFrom : MethodName := ⟨RX9, "copyFrom", "(LNeighbourBoard$Whole;)V"⟩
abbrev cX9_compareSize : ByteArray := prog_11_method_5_code
def yX9_compareSize : MethodName := ⟨RX9, "compareSize", "(LNeighbourBoard$Whole;)I"⟩
abbrev cX9_multiply : ByteArray := prog_11_method_6_code
def yX9_multiply : MethodName := ⟨RX9, "multiply", "(LNeighbourBoard$Whole;LNeighbourBoard$Whole;)V"⟩
abbrev cX9_addTimes : ByteArray := prog_11_method_7_code
def yX9_addTimes : MethodName := ⟨RX9, "addTimes", "(LNeighbourBoard$Whole;I)V"⟩
abbrev cX9_complement : ByteArray := prog_11_method_8_code
def yX9_complement : MethodName := ⟨RX9, "complement", "(I)V"⟩
abbrev cX9_clear : ByteArray := prog_11_method_9_code
def yX9_clear : MethodName := ⟨RX9, "clear", "()V"⟩
abbrev cX9_trim : ByteArray := prog_11_method_10_code
def yX9_trim : MethodName := ⟨RX9, "trim", "(II)V"⟩
def RX10 : String := "NeighbourBoard$Workbench"
def TX10 : u_T := fun k => match k with
  | 0 => ("NeighbourBoard$Workbench", "divider", "LNeighbourBoard$Divider;", true)
  | 1 => ("NeighbourBoard$Workbench", "left", "LNeighbourBoard$Whole;", true)
  | 2 => ("NeighbourBoard$Workbench", "right", "LNeighbourBoard$Whole;", true)
  | _ => ("NeighbourBoard$Workbench", "quotient", "LNeighbourBoard$Whole;", true)
def tyX10 : Nat → FieldType := fun k => match k with
  | 0 => .object "NeighbourBoard$Divider"
  | 1 => .object "NeighbourBoard$Whole"
  | 2 => .object "NeighbourBoard$Whole"
  | _ => .object "NeighbourBoard$Whole"
abbrev wsX100 : List Cond := u_ws RX10 TX10 4
theorem nmX10 : ∀ a, a < 4 → ∀ b, b < 4 → a ≠ b → (TX10 a).2.1 ≠ (TX10 b).2.1 := by decide +kernel
theorem tyX10_ok : ∀ k, k < 4 → parseFieldDescriptor (TX10 k).2.2.1 = some (tyX10 k) := by decide +kernel
abbrev cX10_init : ByteArray := prog_12_method_1_code
def yX10_init : MethodName := ⟨RX10, "<init>", "()V"⟩
abbrev cX10_isLarger : ByteArray := prog_12_method_2_code
def yX10_isLarger : MethodName := ⟨RX10, "isLarger", "(LNeighbourBoard$Fraction;LNeighbourBoard$Fraction;)Z"⟩
abbrev cX10_reduce : ByteArray := prog_12_method_3_code
def yX10_reduce : MethodName := ⟨RX10, "reduce", "(LNeighbourBoard$Fraction;)V"⟩
abbrev cX10_findShared : ByteArray := prog_12_method_4_code
def yX10_findShared : MethodName := ⟨RX10, "findShared", "(LNeighbourBoard$Fraction;)LNeighbourBoard$Whole;"⟩
def RX11 : String := "NeighbourBoard"
def TX11 : u_T := fun k => match k with
  | 0 => ("NeighbourBoard", "slots", "LNeighbourBoard$Slots;", true)
  | 1 => ("NeighbourBoard", "laws", "LNeighbourBoard$Laws;", true)
  | 2 => ("NeighbourBoard", "asked", "LNeighbourBoard$Places;", true)
  | 3 => ("NeighbourBoard", "equations", "LNeighbourBoard$Equations;", true)
  | 4 => ("NeighbourBoard", "grid", "LNeighbourBoard$Grid;", true)
  | 5 => ("NeighbourBoard", "given", "LNeighbourBoard$Answer;", true)
  | 6 => ("NeighbourBoard", "workbench", "LNeighbourBoard$Workbench;", true)
  | 7 => ("NeighbourBoard", "result", "LNeighbourBoard$Fraction;", true)
  | 8 => ("NeighbourBoard", "off", "LNeighbourBoard$Fraction;", true)
  | 9 => ("NeighbourBoard", "greatestOff", "LNeighbourBoard$Fraction;", true)
  | 10 => ("NeighbourBoard", "leastOff", "LNeighbourBoard$Fraction;", true)
  | 11 => ("NeighbourBoard", "sights", "LNeighbourBoard$Sights;", false)
  | 12 => ("NeighbourBoard", "spareSights", "LNeighbourBoard$Sights;", false)
  | 13 => ("NeighbourBoard", "lawUsed", "I", false)
  | _ => ("NeighbourBoard", "mostUsed", "I", false)
def tyX11 : Nat → FieldType := fun k => match k with
  | 0 => .object "NeighbourBoard$Slots"
  | 1 => .object "NeighbourBoard$Laws"
  | 2 => .object "NeighbourBoard$Places"
  | 3 => .object "NeighbourBoard$Equations"
  | 4 => .object "NeighbourBoard$Grid"
  | 5 => .object "NeighbourBoard$Answer"
  | 6 => .object "NeighbourBoard$Workbench"
  | 7 => .object "NeighbourBoard$Fraction"
  | 8 => .object "NeighbourBoard$Fraction"
  | 9 => .object "NeighbourBoard$Fraction"
  | 10 => .object "NeighbourBoard$Fraction"
  | 11 => .object "NeighbourBoard$Sights"
  | 12 => .object "NeighbourBoard$Sights"
  | 13 => .int
  | _ => .int
abbrev wsX110 : List Cond := u_ws RX11 TX11 15
theorem nmX11 : ∀ a, a < 15 → ∀ b, b < 15 → a ≠ b → (TX11 a).2.1 ≠ (TX11 b).2.1 := by decide +kernel
theorem tyX11_ok : ∀ k, k < 15 → parseFieldDescriptor (TX11 k).2.2.1 = some (tyX11 k) := by decide +kernel
abbrev cX11_init : ByteArray := prog_1_method_1_code
def yX11_init : MethodName := ⟨RX11, "<init>", "()V"⟩
abbrev cX11_row : ByteArray := prog_1_method_2_code
def yX11_row : MethodName := ⟨RX11, "row", "(III)I"⟩
abbrev cX11_tear : ByteArray := prog_1_method_3_code
def yX11_tear : MethodName := ⟨RX11, "tear", "(I)Z"⟩
abbrev cX11_write : ByteArray := prog_1_method_4_code
def yX11_write : MethodName := ⟨RX11, "write", "(IIJ)I"⟩
abbrev cX11_seen : ByteArray := prog_1_method_5_code
def yX11_seen : MethodName := ⟨RX11, "seen", "(I)I"⟩
abbrev cX11_see : ByteArray := prog_1_method_6_code
def yX11_see : MethodName := ⟨RX11, "see", "(IIII)I"⟩
abbrev cX11_drop : ByteArray := prog_1_method_7_code
def yX11_drop : MethodName := ⟨RX11, "drop", "(I)I"⟩
abbrev cX11_straight : ByteArray := prog_1_method_8_code
def yX11_straight : MethodName := ⟨RX11, "straight", "(I)I"⟩
abbrev cX11_capped : ByteArray := prog_1_method_9_code
def yX11_capped : MethodName := ⟨RX11, "capped", "(II)I"⟩
abbrev cX11_table : ByteArray := prog_1_method_10_code
def yX11_table : MethodName := ⟨RX11, "table", "(I)I"⟩
abbrev cX11_sum : ByteArray := prog_1_method_11_code
def yX11_sum : MethodName := ⟨RX11, "sum", "(II)I"⟩
abbrev cX11_unlike : ByteArray := prog_1_method_12_code
def yX11_unlike : MethodName := ⟨RX11, "unlike", "(II)I"⟩
abbrev cX11_use : ByteArray := prog_1_method_13_code
def yX11_use : MethodName := ⟨RX11, "use", "(I)Z"⟩
abbrev cX11_nearest : ByteArray := prog_1_method_14_code
def yX11_nearest : MethodName := ⟨RX11, "nearest", "(I)Z"⟩
abbrev cX11_ask : ByteArray := prog_1_method_15_code
def yX11_ask : MethodName := ⟨RX11, "ask", "(II)I"⟩
abbrev cX11_mean : ByteArray := prog_1_method_16_code
def yX11_mean : MethodName := ⟨RX11, "mean", "(I)I"⟩
abbrev cX11_answer : ByteArray := prog_1_method_17_code
def yX11_answer : MethodName := ⟨RX11, "answer", "(I)Z"⟩
abbrev cX11_leftOut : ByteArray := prog_1_method_18_code
def yX11_leftOut : MethodName := ⟨RX11, "leftOut", "(I)Z"⟩
abbrev cX11_worst : ByteArray := prog_1_method_19_code
def yX11_worst : MethodName := ⟨RX11, "worst", "()I"⟩
abbrev cX11_best : ByteArray := prog_1_method_20_code
def yX11_best : MethodName := ⟨RX11, "best", "()I"⟩
abbrev cX11_allowed : ByteArray := prog_1_method_21_code
def yX11_allowed : MethodName := ⟨RX11, "allowed", "(I)I"⟩
abbrev cX11_pairs : ByteArray := prog_1_method_22_code
def yX11_pairs : MethodName := ⟨RX11, "pairs", "(II)I"⟩
abbrev cX11_band : ByteArray := prog_1_method_23_code
def yX11_band : MethodName := ⟨RX11, "band", "(II)Z"⟩
abbrev cX11_look : ByteArray := prog_1_method_24_code
def yX11_look : MethodName := ⟨RX11, "look", "(I)I"⟩
abbrev cX11_part : ByteArray := prog_1_method_25_code
def yX11_part : MethodName := ⟨RX11, "part", "(ZI)I"⟩
abbrev cX11_told : ByteArray := prog_1_method_26_code
def yX11_told : MethodName := ⟨RX11, "told", "(II)I"⟩
abbrev cX11_count : ByteArray := prog_1_method_27_code
def yX11_count : MethodName := ⟨RX11, "count", "(I)I"⟩
abbrev cX11_isWithin : ByteArray := prog_1_method_28_code
def yX11_isWithin : MethodName := ⟨RX11, "isWithin", "(III)Z"⟩
abbrev cX11_isPlace : ByteArray := prog_1_method_29_code
def yX11_isPlace : MethodName := ⟨RX11, "isPlace", "(II)Z"⟩
abbrev cX11_addSloped : ByteArray := prog_1_method_30_code
def yX11_addSloped : MethodName := ⟨RX11, "addSloped", "(II)I"⟩
abbrev cX11_readSights : ByteArray := prog_1_method_31_code
def yX11_readSights : MethodName := ⟨RX11, "readSights", "()Z"⟩
abbrev cX11_readSight : ByteArray := prog_1_method_32_code
def yX11_readSight : MethodName := ⟨RX11, "readSight", "()Z"⟩
abbrev cX11_readTable : ByteArray := prog_1_method_33_code
def yX11_readTable : MethodName := ⟨RX11, "readTable", "()Z"⟩
abbrev cX11_readAsked : ByteArray := prog_1_method_34_code
def yX11_readAsked : MethodName := ⟨RX11, "readAsked", "()Z"⟩
abbrev cX11_canGuess : ByteArray := prog_1_method_35_code
def yX11_canGuess : MethodName := ⟨RX11, "canGuess", "()Z"⟩
abbrev cX11_guessForAsked : ByteArray := prog_1_method_36_code
def yX11_guessForAsked : MethodName := ⟨RX11, "guessForAsked", "()I"⟩
abbrev cX11_leaveOut : ByteArray := prog_1_method_37_code
def yX11_leaveOut : MethodName := ⟨RX11, "leaveOut", "(II)Z"⟩
abbrev cX11_findWorst : ByteArray := prog_1_method_38_code
def yX11_findWorst : MethodName := ⟨RX11, "findWorst", "(I)I"⟩
abbrev cX11_setResult : ByteArray := prog_1_method_39_code
def yX11_setResult : MethodName := ⟨RX11, "setResult", "(LNeighbourBoard$Whole;LNeighbourBoard$Whole;)Z"⟩
def RX12 : String := "NeighbourBoardModel"
def TX12 : u_T := fun k => match k with
  | 0 => ("NeighbourBoardModel", "n", "[J", true)
  | 1 => ("NeighbourBoardModel", "ends", "[I", true)
  | 2 => ("NeighbourBoardModel", "widths", "[I", true)
  | 3 => ("NeighbourBoardModel", "numbers", "[J", true)
  | 4 => ("NeighbourBoardModel", "seen", "I", false)
  | 5 => ("NeighbourBoardModel", "x", "[I", true)
  | 6 => ("NeighbourBoardModel", "y", "[I", true)
  | 7 => ("NeighbourBoardModel", "number", "[I", true)
  | 8 => ("NeighbourBoardModel", "doubt", "[I", true)
  | 9 => ("NeighbourBoardModel", "laws", "I", false)
  | 10 => ("NeighbourBoardModel", "law", "[I", true)
  | 11 => ("NeighbourBoardModel", "used", "I", false)
  | 12 => ("NeighbourBoardModel", "nearest", "I", false)
  | 13 => ("NeighbourBoardModel", "hasAnswer", "Z", false)
  | 14 => ("NeighbourBoardModel", "left", "[J", true)
  | 15 => ("NeighbourBoardModel", "right", "[J", true)
  | 16 => ("NeighbourBoardModel", "both", "[J", true)
  | 17 => ("NeighbourBoardModel", "high", "I", false)
  | 18 => ("NeighbourBoardModel", "wide", "I", false)
  | 19 => ("NeighbourBoardModel", "rank", "I", false)
  | 20 => ("NeighbourBoardModel", "flips", "I", false)
  | 21 => ("NeighbourBoardModel", "rowOf", "[I", true)
  | 22 => ("NeighbourBoardModel", "row", "[I", true)
  | 23 => ("NeighbourBoardModel", "places", "I", false)
  | 24 => ("NeighbourBoardModel", "placeX", "[I", true)
  | 25 => ("NeighbourBoardModel", "placeY", "[I", true)
  | 26 => ("NeighbourBoardModel", "chosen", "I", false)
  | 27 => ("NeighbourBoardModel", "chosenOf", "[I", true)
  | 28 => ("NeighbourBoardModel", "taken", "[Z", true)
  | _ => ("NeighbourBoardModel", "squares", "J", false)
def tyX12 : Nat → FieldType := fun k => match k with
  | 0 => .array .long
  | 1 => .array .int
  | 2 => .array .int
  | 3 => .array .long
  | 4 => .int
  | 5 => .array .int
  | 6 => .array .int
  | 7 => .array .int
  | 8 => .array .int
  | 9 => .int
  | 10 => .array .int
  | 11 => .int
  | 12 => .int
  | 13 => .boolean
  | 14 => .array .long
  | 15 => .array .long
  | 16 => .array .long
  | 17 => .int
  | 18 => .int
  | 19 => .int
  | 20 => .int
  | 21 => .array .int
  | 22 => .array .int
  | 23 => .int
  | 24 => .array .int
  | 25 => .array .int
  | 26 => .int
  | 27 => .array .int
  | 28 => .array .boolean
  | _ => .long
abbrev wsX120 : List Cond := u_ws RX12 TX12 30
theorem nmX12 : ∀ a, a < 30 → ∀ b, b < 30 → a ≠ b → (TX12 a).2.1 ≠ (TX12 b).2.1 := by decide +kernel
theorem tyX12_ok : ∀ k, k < 30 → parseFieldDescriptor (TX12 k).2.2.1 = some (tyX12 k) := by decide +kernel
abbrev cX12_init : ByteArray := prog_14_method_1_code
def yX12_init : MethodName := ⟨RX12, "<init>", "()V"⟩
abbrev cX12_carry : ByteArray := prog_14_method_2_code
def yX12_carry : MethodName := ⟨RX12, "carry", "(I)V"⟩
abbrev cX12_set : ByteArray := prog_14_method_3_code
def yX12_set : MethodName := ⟨RX12, "set", "(IJ)V"⟩
abbrev cX12_copy : ByteArray := prog_14_method_4_code
def yX12_copy : MethodName := ⟨RX12, "copy", "(II)V"⟩
abbrev cX12_more : ByteArray := prog_14_method_5_code
def yX12_more : MethodName := ⟨RX12, "more", "(IIJ)V"⟩
abbrev cX12_isBelow : ByteArray := prog_14_method_6_code
def yX12_isBelow : MethodName := ⟨RX12, "isBelow", "(I)Z"⟩
abbrev cX12_isZero : ByteArray := prog_14_method_7_code
def yX12_isZero : MethodName := ⟨RX12, "isZero", "(I)Z"⟩
abbrev cX12_turn : ByteArray := prog_14_method_8_code
def yX12_turn : MethodName := ⟨RX12, "turn", "(I)V"⟩
abbrev cX12_sign : ByteArray := prog_14_method_9_code
def yX12_sign : MethodName := ⟨RX12, "sign", "(I)I"⟩
abbrev cX12_bare : ByteArray := prog_14_method_10_code
def yX12_bare : MethodName := ⟨RX12, "bare", "(I[J)V"⟩
abbrev cX12_length : ByteArray := prog_14_method_11_code
def yX12_length : MethodName := ⟨RX12, "length", "([J)I"⟩
abbrev cX12_times : ByteArray := prog_14_method_12_code
def yX12_times : MethodName := ⟨RX12, "times", "(III)V"⟩
abbrev cX12_parts : ByteArray := prog_14_method_13_code
def yX12_parts : MethodName := ⟨RX12, "parts", "(II)V"⟩
abbrev cX12_goesInto : ByteArray := prog_14_method_14_code
def yX12_goesInto : MethodName := ⟨RX12, "goesInto", "(JII)Z"⟩
abbrev cX12_isEven : ByteArray := prog_14_method_15_code
def yX12_isEven : MethodName := ⟨RX12, "isEven", "(I)Z"⟩
abbrev cX12_half : ByteArray := prog_14_method_16_code
def yX12_half : MethodName := ⟨RX12, "half", "(I)V"⟩
abbrev cX12_isLess : ByteArray := prog_14_method_17_code
def yX12_isLess : MethodName := ⟨RX12, "isLess", "(II)Z"⟩
abbrev cX12_result : ByteArray := prog_14_method_18_code
def yX12_result : MethodName := ⟨RX12, "result", "(II)V"⟩
abbrev cX12_isSlot : ByteArray := prog_14_method_19_code
def yX12_isSlot : MethodName := ⟨RX12, "isSlot", "(I)Z"⟩
abbrev cX12_row : ByteArray := prog_14_method_20_code
def yX12_row : MethodName := ⟨RX12, "row", "(III)I"⟩
abbrev cX12_tear : ByteArray := prog_14_method_21_code
def yX12_tear : MethodName := ⟨RX12, "tear", "(I)Z"⟩
abbrev cX12_write : ByteArray := prog_14_method_22_code
def yX12_write : MethodName := ⟨RX12, "write", "(IIJ)I"⟩
abbrev cX12_cell : ByteArray := prog_14_method_23_code
def yX12_cell : MethodName := ⟨RX12, "cell", "(II)I"⟩
abbrev cX12_clear : ByteArray := prog_14_method_24_code
def yX12_clear : MethodName := ⟨RX12, "clear", "(I)V"⟩
abbrev cX12_clears : ByteArray := prog_14_method_25_code
def yX12_clears : MethodName := ⟨RX12, "clears", "(II)V"⟩
abbrev cX12_isIn : ByteArray := prog_14_method_26_code
def yX12_isIn : MethodName := ⟨RX12, "isIn", "(JJJ)Z"⟩
abbrev cX12_isSeen : ByteArray := prog_14_method_27_code
def yX12_isSeen : MethodName := ⟨RX12, "isSeen", "(I)Z"⟩
abbrev cX12_seen : ByteArray := prog_14_method_28_code
def yX12_seen : MethodName := ⟨RX12, "seen", "(I)I"⟩
abbrev cX12_see : ByteArray := prog_14_method_29_code
def yX12_see : MethodName := ⟨RX12, "see", "(IIII)I"⟩
abbrev cX12_drop : ByteArray := prog_14_method_30_code
def yX12_drop : MethodName := ⟨RX12, "drop", "(I)I"⟩
abbrev cX12_isLaw : ByteArray := prog_14_method_31_code
def yX12_isLaw : MethodName := ⟨RX12, "isLaw", "(I)Z"⟩
abbrev cX12_straight : ByteArray := prog_14_method_32_code
def yX12_straight : MethodName := ⟨RX12, "straight", "(I)I"⟩
abbrev cX12_capped : ByteArray := prog_14_method_33_code
def yX12_capped : MethodName := ⟨RX12, "capped", "(II)I"⟩
abbrev cX12_table : ByteArray := prog_14_method_34_code
def yX12_table : MethodName := ⟨RX12, "table", "(I)I"⟩
abbrev cX12_sum : ByteArray := prog_14_method_35_code
def yX12_sum : MethodName := ⟨RX12, "sum", "(II)I"⟩
abbrev cX12_unlike : ByteArray := prog_14_method_36_code
def yX12_unlike : MethodName := ⟨RX12, "unlike", "(II)I"⟩
abbrev cX12_use : ByteArray := prog_14_method_37_code
def yX12_use : MethodName := ⟨RX12, "use", "(I)Z"⟩
abbrev cX12_nearest : ByteArray := prog_14_method_38_code
def yX12_nearest : MethodName := ⟨RX12, "nearest", "(I)Z"⟩
abbrev cX12_size : ByteArray := prog_14_method_39_code
def yX12_size : MethodName := ⟨RX12, "size", "(I)I"⟩
abbrev cX12_way : ByteArray := prog_14_method_40_code
def yX12_way : MethodName := ⟨RX12, "way", "(IIII)I"⟩
abbrev cX12_between : ByteArray := prog_14_method_41_code
def yX12_between : MethodName := ⟨RX12, "between", "(III)I"⟩
abbrev cX12_ways : ByteArray := prog_14_method_42_code
def yX12_ways : MethodName := ⟨RX12, "ways", "(I)I"⟩
abbrev cX12_choose : ByteArray := prog_14_method_43_code
def yX12_choose : MethodName := ⟨RX12, "choose", "()V"⟩
abbrev cX12_toPlaces : ByteArray := prog_14_method_44_code
def yX12_toPlaces : MethodName := ⟨RX12, "toPlaces", "(II)I"⟩
abbrev cX12_weigh : ByteArray := prog_14_method_45_code
def yX12_weigh : MethodName := ⟨RX12, "weigh", "(I)Z"⟩
abbrev cX12_told : ByteArray := prog_14_method_46_code
def yX12_told : MethodName := ⟨RX12, "told", "(I)I"⟩
abbrev cX12_guess : ByteArray := prog_14_method_47_code
def yX12_guess : MethodName := ⟨RX12, "guess", "(I)V"⟩
abbrev cX12_top : ByteArray := prog_14_method_48_code
def yX12_top : MethodName := ⟨RX12, "top", "(I)I"⟩
abbrev cX12_bottom : ByteArray := prog_14_method_49_code
def yX12_bottom : MethodName := ⟨RX12, "bottom", "(I)I"⟩
abbrev cX12_isAnswered : ByteArray := prog_14_method_50_code
def yX12_isAnswered : MethodName := ⟨RX12, "isAnswered", "()Z"⟩
abbrev cX12_ask : ByteArray := prog_14_method_51_code
def yX12_ask : MethodName := ⟨RX12, "ask", "(II)I"⟩
abbrev cX12_mean : ByteArray := prog_14_method_52_code
def yX12_mean : MethodName := ⟨RX12, "mean", "(I)I"⟩
abbrev cX12_answer : ByteArray := prog_14_method_53_code
def yX12_answer : MethodName := ⟨RX12, "answer", "(I)Z"⟩
abbrev cX12_isOff : ByteArray := prog_14_method_54_code
def yX12_isOff : MethodName := ⟨RX12, "isOff", "(II)Z"⟩
abbrev cX12_leftOut : ByteArray := prog_14_method_55_code
def yX12_leftOut : MethodName := ⟨RX12, "leftOut", "(I)Z"⟩
abbrev cX12_bare_ : ByteArray := prog_14_method_56_code
def yX12_bare_ : MethodName := ⟨RX12, "bare", "(I)V"⟩
abbrev cX12_isAbove : ByteArray := prog_14_method_57_code
def yX12_isAbove : MethodName := ⟨RX12, "isAbove", "(IIII)Z"⟩
abbrev cX12_worst : ByteArray := prog_14_method_58_code
def yX12_worst : MethodName := ⟨RX12, "worst", "(I)I"⟩
abbrev cX12_worst_ : ByteArray := prog_14_method_59_code
def yX12_worst_ : MethodName := ⟨RX12, "worst", "()I"⟩
abbrev cX12_best : ByteArray := prog_14_method_60_code
def yX12_best : MethodName := ⟨RX12, "best", "()I"⟩
abbrev cX12_minor : ByteArray := prog_14_method_61_code
def yX12_minor : MethodName := ⟨RX12, "minor", "(II)I"⟩
abbrev cX12_allowed : ByteArray := prog_14_method_62_code
def yX12_allowed : MethodName := ⟨RX12, "allowed", "(I)I"⟩
abbrev cX12_band0 : ByteArray := prog_14_method_63_code
def yX12_band0 : MethodName := ⟨RX12, "band0", "(II)I"⟩
abbrev cX12_pairs : ByteArray := prog_14_method_64_code
def yX12_pairs : MethodName := ⟨RX12, "pairs", "(II)I"⟩
abbrev cX12_band : ByteArray := prog_14_method_65_code
def yX12_band : MethodName := ⟨RX12, "band", "(II)Z"⟩
abbrev cX12_manyParts : ByteArray := prog_14_method_66_code
def yX12_manyParts : MethodName := ⟨RX12, "manyParts", "([J)I"⟩
abbrev cX12_look : ByteArray := prog_14_method_67_code
def yX12_look : MethodName := ⟨RX12, "look", "(I)I"⟩
abbrev cX12_part : ByteArray := prog_14_method_68_code
def yX12_part : MethodName := ⟨RX12, "part", "(ZI)I"⟩
abbrev cX12_told_ : ByteArray := prog_14_method_69_code
def yX12_told_ : MethodName := ⟨RX12, "told", "(II)I"⟩
abbrev cX12_count : ByteArray := prog_14_method_70_code
def yX12_count : MethodName := ⟨RX12, "count", "(I)I"⟩
def RJ13 : String := "java/lang/Long"
def TJ13 : u_T := fun k => match k with
  | _ => ("", "", "", false)
def tyJ13 : Nat → FieldType := fun k => match k with
  | _ => .int
theorem nmJ13 : ∀ a, a < 0 → ∀ b, b < 0 → a ≠ b → (TJ13 a).2.1 ≠ (TJ13 b).2.1 := by decide +kernel
theorem tyJ13_ok : ∀ k, k < 0 → parseFieldDescriptor (TJ13 k).2.2.1 = some (tyJ13 k) := by decide +kernel
abbrev cJ13_signum_95d88 : ByteArray := prog_15_method_57_code
def yJ13_signum_95d88 : MethodName := ⟨RJ13, "signum", "(J)I"⟩
def RJ9 : String := "java/lang/Math"
def TJ9 : u_T := fun k => match k with
  | _ => ("", "", "", false)
def tyJ9 : Nat → FieldType := fun k => match k with
  | _ => .int
theorem nmJ9 : ∀ a, a < 0 → ∀ b, b < 0 → a ≠ b → (TJ9 a).2.1 ≠ (TJ9 b).2.1 := by decide +kernel
theorem tyJ9_ok : ∀ k, k < 0 → parseFieldDescriptor (TJ9 k).2.2.1 = some (tyJ9 k) := by decide +kernel
abbrev cJ9_floorDiv_f86c9 : ByteArray := prog_16_method_49_code
def yJ9_floorDiv_f86c9 : MethodName := ⟨RJ9, "floorDiv", "(JJ)J"⟩
abbrev cJ9_floorMod_f86c9 : ByteArray := prog_16_method_52_code
def yJ9_floorMod_f86c9 : MethodName := ⟨RJ9, "floorMod", "(JJ)J"⟩
abbrev cJ9_abs_0f7a4 : ByteArray := prog_16_method_59_code
def yJ9_abs_0f7a4 : MethodName := ⟨RJ9, "abs", "(I)I"⟩
abbrev cJ9_abs_067f4 : ByteArray := prog_16_method_61_code
def yJ9_abs_067f4 : MethodName := ⟨RJ9, "abs", "(J)J"⟩
abbrev cJ9_max_7cf53 : ByteArray := prog_16_method_65_code
def yJ9_max_7cf53 : MethodName := ⟨RJ9, "max", "(II)I"⟩
abbrev cJ9_min_7cf53 : ByteArray := prog_16_method_69_code
def yJ9_min_7cf53 : MethodName := ⟨RJ9, "min", "(II)I"⟩
def RL : String := "NeighbourBoardLaw"
abbrev cL_law : ByteArray := code
def yL_law : MethodName := ⟨RL, "law", "([I)Z"⟩
abbrev vwCl : List vw_C := [(RX0, TX0, 7), (RX1, TX1, 4), (RX2, TX2, 6), (RX3, TX3, 2), (RX4, TX4, 6), (RX5, TX5, 2), (RX6, TX6, 3), (RX7, TX7, 3), (RX8, TX8, 9), (RX9, TX9, 3), (RX10, TX10, 4), (RX11, TX11, 15), (RX12, TX12, 30)]
theorem inX0 : ∀ w ∈ wsX00, w ∈ lw_tbl := by
  intro w hw
  obtain ⟨k, hk, rfl⟩ := List.mem_map.mp hw
  have hk := List.mem_range.mp hk
  match k, hk with
  | 0, _ => exact List.mem_of_getElem? (i := 293) (by decide +kernel)
  | 1, _ => exact List.mem_of_getElem? (i := 295) (by decide +kernel)
  | 2, _ => exact List.mem_of_getElem? (i := 297) (by decide +kernel)
  | 3, _ => exact List.mem_of_getElem? (i := 299) (by decide +kernel)
  | 4, _ => exact List.mem_of_getElem? (i := 301) (by decide +kernel)
  | 5, _ => exact List.mem_of_getElem? (i := 303) (by decide +kernel)
  | 6, _ => exact List.mem_of_getElem? (i := 305) (by decide +kernel)
  | k + 7, h => exact absurd h (by omega)
theorem inX1 : ∀ w ∈ wsX10, w ∈ lw_tbl := by
  intro w hw
  obtain ⟨k, hk, rfl⟩ := List.mem_map.mp hw
  have hk := List.mem_range.mp hk
  match k, hk with
  | 0, _ => exact List.mem_of_getElem? (i := 241) (by decide +kernel)
  | 1, _ => exact List.mem_of_getElem? (i := 243) (by decide +kernel)
  | 2, _ => exact List.mem_of_getElem? (i := 245) (by decide +kernel)
  | 3, _ => exact List.mem_of_getElem? (i := 247) (by decide +kernel)
  | k + 4, h => exact absurd h (by omega)
theorem inX2 : ∀ w ∈ wsX20, w ∈ lw_tbl := by
  intro w hw
  obtain ⟨k, hk, rfl⟩ := List.mem_map.mp hw
  have hk := List.mem_range.mp hk
  match k, hk with
  | 0, _ => exact List.mem_of_getElem? (i := 185) (by decide +kernel)
  | 1, _ => exact List.mem_of_getElem? (i := 187) (by decide +kernel)
  | 2, _ => exact List.mem_of_getElem? (i := 189) (by decide +kernel)
  | 3, _ => exact List.mem_of_getElem? (i := 191) (by decide +kernel)
  | 4, _ => exact List.mem_of_getElem? (i := 193) (by decide +kernel)
  | 5, _ => exact List.mem_of_getElem? (i := 195) (by decide +kernel)
  | k + 6, h => exact absurd h (by omega)
theorem inX3 : ∀ w ∈ wsX30, w ∈ lw_tbl := by
  intro w hw
  obtain ⟨k, hk, rfl⟩ := List.mem_map.mp hw
  have hk := List.mem_range.mp hk
  match k, hk with
  | 0, _ => exact List.mem_of_getElem? (i := 366) (by decide +kernel)
  | 1, _ => exact List.mem_of_getElem? (i := 368) (by decide +kernel)
  | k + 2, h => exact absurd h (by omega)
theorem inX4 : ∀ w ∈ wsX40, w ∈ lw_tbl := by
  intro w hw
  obtain ⟨k, hk, rfl⟩ := List.mem_map.mp hw
  have hk := List.mem_range.mp hk
  match k, hk with
  | 0, _ => exact List.mem_of_getElem? (i := 258) (by decide +kernel)
  | 1, _ => exact List.mem_of_getElem? (i := 260) (by decide +kernel)
  | 2, _ => exact List.mem_of_getElem? (i := 262) (by decide +kernel)
  | 3, _ => exact List.mem_of_getElem? (i := 264) (by decide +kernel)
  | 4, _ => exact List.mem_of_getElem? (i := 266) (by decide +kernel)
  | 5, _ => exact List.mem_of_getElem? (i := 268) (by decide +kernel)
  | k + 6, h => exact absurd h (by omega)
theorem inX5 : ∀ w ∈ wsX50, w ∈ lw_tbl := by
  intro w hw
  obtain ⟨k, hk, rfl⟩ := List.mem_map.mp hw
  have hk := List.mem_range.mp hk
  match k, hk with
  | 0, _ => exact List.mem_of_getElem? (i := 137) (by decide +kernel)
  | 1, _ => exact List.mem_of_getElem? (i := 139) (by decide +kernel)
  | k + 2, h => exact absurd h (by omega)
theorem inX6 : ∀ w ∈ wsX60, w ∈ lw_tbl := by
  intro w hw
  obtain ⟨k, hk, rfl⟩ := List.mem_map.mp hw
  have hk := List.mem_range.mp hk
  match k, hk with
  | 0, _ => exact List.mem_of_getElem? (i := 161) (by decide +kernel)
  | 1, _ => exact List.mem_of_getElem? (i := 163) (by decide +kernel)
  | 2, _ => exact List.mem_of_getElem? (i := 165) (by decide +kernel)
  | k + 3, h => exact absurd h (by omega)
theorem inX7 : ∀ w ∈ wsX70, w ∈ lw_tbl := by
  intro w hw
  obtain ⟨k, hk, rfl⟩ := List.mem_map.mp hw
  have hk := List.mem_range.mp hk
  match k, hk with
  | 0, _ => exact List.mem_of_getElem? (i := 389) (by decide +kernel)
  | 1, _ => exact List.mem_of_getElem? (i := 391) (by decide +kernel)
  | 2, _ => exact List.mem_of_getElem? (i := 393) (by decide +kernel)
  | k + 3, h => exact absurd h (by omega)
theorem inX8 : ∀ w ∈ wsX80, w ∈ lw_tbl := by
  intro w hw
  obtain ⟨k, hk, rfl⟩ := List.mem_map.mp hw
  have hk := List.mem_range.mp hk
  match k, hk with
  | 0, _ => exact List.mem_of_getElem? (i := 107) (by decide +kernel)
  | 1, _ => exact List.mem_of_getElem? (i := 109) (by decide +kernel)
  | 2, _ => exact List.mem_of_getElem? (i := 111) (by decide +kernel)
  | 3, _ => exact List.mem_of_getElem? (i := 113) (by decide +kernel)
  | 4, _ => exact List.mem_of_getElem? (i := 115) (by decide +kernel)
  | 5, _ => exact List.mem_of_getElem? (i := 117) (by decide +kernel)
  | 6, _ => exact List.mem_of_getElem? (i := 119) (by decide +kernel)
  | 7, _ => exact List.mem_of_getElem? (i := 121) (by decide +kernel)
  | 8, _ => exact List.mem_of_getElem? (i := 123) (by decide +kernel)
  | k + 9, h => exact absurd h (by omega)
theorem inX9 : ∀ w ∈ wsX90, w ∈ lw_tbl := by
  intro w hw
  obtain ⟨k, hk, rfl⟩ := List.mem_map.mp hw
  have hk := List.mem_range.mp hk
  match k, hk with
  | 0, _ => exact List.mem_of_getElem? (i := 224) (by decide +kernel)
  | 1, _ => exact List.mem_of_getElem? (i := 226) (by decide +kernel)
  | 2, _ => exact List.mem_of_getElem? (i := 228) (by decide +kernel)
  | k + 3, h => exact absurd h (by omega)
theorem inX10 : ∀ w ∈ wsX100, w ∈ lw_tbl := by
  intro w hw
  obtain ⟨k, hk, rfl⟩ := List.mem_map.mp hw
  have hk := List.mem_range.mp hk
  match k, hk with
  | 0, _ => exact List.mem_of_getElem? (i := 322) (by decide +kernel)
  | 1, _ => exact List.mem_of_getElem? (i := 324) (by decide +kernel)
  | 2, _ => exact List.mem_of_getElem? (i := 326) (by decide +kernel)
  | 3, _ => exact List.mem_of_getElem? (i := 328) (by decide +kernel)
  | k + 4, h => exact absurd h (by omega)
theorem inX11 : ∀ w ∈ wsX110, w ∈ lw_tbl := by
  intro w hw
  obtain ⟨k, hk, rfl⟩ := List.mem_map.mp hw
  have hk := List.mem_range.mp hk
  match k, hk with
  | 0, _ => exact List.mem_of_getElem? (i := 411) (by decide +kernel)
  | 1, _ => exact List.mem_of_getElem? (i := 413) (by decide +kernel)
  | 2, _ => exact List.mem_of_getElem? (i := 415) (by decide +kernel)
  | 3, _ => exact List.mem_of_getElem? (i := 417) (by decide +kernel)
  | 4, _ => exact List.mem_of_getElem? (i := 419) (by decide +kernel)
  | 5, _ => exact List.mem_of_getElem? (i := 421) (by decide +kernel)
  | 6, _ => exact List.mem_of_getElem? (i := 423) (by decide +kernel)
  | 7, _ => exact List.mem_of_getElem? (i := 425) (by decide +kernel)
  | 8, _ => exact List.mem_of_getElem? (i := 427) (by decide +kernel)
  | 9, _ => exact List.mem_of_getElem? (i := 429) (by decide +kernel)
  | 10, _ => exact List.mem_of_getElem? (i := 431) (by decide +kernel)
  | 11, _ => exact List.mem_of_getElem? (i := 433) (by decide +kernel)
  | 12, _ => exact List.mem_of_getElem? (i := 435) (by decide +kernel)
  | 13, _ => exact List.mem_of_getElem? (i := 437) (by decide +kernel)
  | 14, _ => exact List.mem_of_getElem? (i := 439) (by decide +kernel)
  | k + 15, h => exact absurd h (by omega)
theorem inX12 : ∀ w ∈ wsX120, w ∈ lw_tbl := by
  intro w hw
  obtain ⟨k, hk, rfl⟩ := List.mem_map.mp hw
  have hk := List.mem_range.mp hk
  match k, hk with
  | 0, _ => exact List.mem_of_getElem? (i := 946) (by decide +kernel)
  | 1, _ => exact List.mem_of_getElem? (i := 948) (by decide +kernel)
  | 2, _ => exact List.mem_of_getElem? (i := 950) (by decide +kernel)
  | 3, _ => exact List.mem_of_getElem? (i := 952) (by decide +kernel)
  | 4, _ => exact List.mem_of_getElem? (i := 954) (by decide +kernel)
  | 5, _ => exact List.mem_of_getElem? (i := 956) (by decide +kernel)
  | 6, _ => exact List.mem_of_getElem? (i := 958) (by decide +kernel)
  | 7, _ => exact List.mem_of_getElem? (i := 960) (by decide +kernel)
  | 8, _ => exact List.mem_of_getElem? (i := 962) (by decide +kernel)
  | 9, _ => exact List.mem_of_getElem? (i := 964) (by decide +kernel)
  | 10, _ => exact List.mem_of_getElem? (i := 966) (by decide +kernel)
  | 11, _ => exact List.mem_of_getElem? (i := 968) (by decide +kernel)
  | 12, _ => exact List.mem_of_getElem? (i := 970) (by decide +kernel)
  | 13, _ => exact List.mem_of_getElem? (i := 972) (by decide +kernel)
  | 14, _ => exact List.mem_of_getElem? (i := 974) (by decide +kernel)
  | 15, _ => exact List.mem_of_getElem? (i := 976) (by decide +kernel)
  | 16, _ => exact List.mem_of_getElem? (i := 978) (by decide +kernel)
  | 17, _ => exact List.mem_of_getElem? (i := 980) (by decide +kernel)
  | 18, _ => exact List.mem_of_getElem? (i := 982) (by decide +kernel)
  | 19, _ => exact List.mem_of_getElem? (i := 984) (by decide +kernel)
  | 20, _ => exact List.mem_of_getElem? (i := 986) (by decide +kernel)
  | 21, _ => exact List.mem_of_getElem? (i := 988) (by decide +kernel)
  | 22, _ => exact List.mem_of_getElem? (i := 990) (by decide +kernel)
  | 23, _ => exact List.mem_of_getElem? (i := 992) (by decide +kernel)
  | 24, _ => exact List.mem_of_getElem? (i := 994) (by decide +kernel)
  | 25, _ => exact List.mem_of_getElem? (i := 996) (by decide +kernel)
  | 26, _ => exact List.mem_of_getElem? (i := 998) (by decide +kernel)
  | 27, _ => exact List.mem_of_getElem? (i := 1000) (by decide +kernel)
  | 28, _ => exact List.mem_of_getElem? (i := 1002) (by decide +kernel)
  | 29, _ => exact List.mem_of_getElem? (i := 1004) (by decide +kernel)
  | k + 30, h => exact absurd h (by omega)
def z_lay : List (Nat × Nat) := [(99, 0), (11, 15), (8, 9), (21, 480), (20, 8), (20, 8), (5, 2), (20, 486), (6, 3), (20, 6), (20, 6), (2, 6), (20, 8), (20, 64), (20, 8), (20, 8), (4, 6), (23, 56), (9, 3), (20, 12), (9, 3), (20, 12), (9, 3), (20, 12), (9, 3), (20, 12), (1, 4), (20, 13), (20, 13), (9, 3), (20, 12), (9, 3), (20, 12), (9, 3), (20, 12), (9, 3), (20, 12), (9, 3), (20, 12), (9, 3), (20, 12), (9, 3), (20, 12), (9, 3), (20, 12), (9, 3), (20, 12), (9, 3), (20, 12), (9, 3), (20, 12), (9, 3), (20, 12), (9, 3), (20, 12), (9, 3), (20, 12), (9, 3), (20, 12), (9, 3), (20, 12), (9, 3), (20, 12), (9, 3), (20, 12), (9, 3), (20, 12), (9, 3), (20, 12), (9, 3), (20, 12), (9, 3), (20, 12), (9, 3), (20, 12), (9, 3), (20, 12), (9, 3), (20, 12), (9, 3), (20, 12), (9, 3), (20, 12), (9, 3), (20, 12), (9, 3), (20, 12), (9, 3), (20, 12), (9, 3), (20, 12), (9, 3), (20, 12), (9, 3), (20, 12), (9, 3), (20, 12), (9, 3), (20, 12), (9, 3), (20, 12), (9, 3), (20, 12), (9, 3), (20, 12), (9, 3), (20, 12), (9, 3), (20, 12), (9, 3), (20, 12), (9, 3), (20, 12), (9, 3), (20, 12), (9, 3), (20, 12), (9, 3), (20, 12), (9, 3), (20, 12), (9, 3), (20, 12), (9, 3), (20, 12), (9, 3), (20, 12), (9, 3), (20, 12), (9, 3), (20, 12), (9, 3), (20, 12), (9, 3), (20, 12), (9, 3), (20, 12), (9, 3), (20, 12), (9, 3), (20, 12), (0, 7), (23, 8), (9, 3), (20, 12), (9, 3), (20, 12), (9, 3), (20, 12), (9, 3), (20, 12), (9, 3), (20, 12), (9, 3), (20, 12), (9, 3), (20, 12), (9, 3), (20, 12), (9, 3), (20, 12), (9, 3), (20, 12), (9, 3), (20, 12), (9, 3), (20, 12), (9, 3), (20, 12), (10, 4), (1, 4), (20, 13), (20, 13), (9, 3), (20, 12), (9, 3), (20, 12), (9, 3), (20, 12), (3, 2), (9, 3), (20, 12), (9, 3), (20, 12), (3, 2), (9, 3), (20, 12), (9, 3), (20, 12), (3, 2), (9, 3), (20, 12), (9, 3), (20, 12), (3, 2), (9, 3), (20, 12), (9, 3), (20, 12), (7, 3), (6, 3), (20, 8), (20, 8), (20, 8), (20, 8), (7, 3), (6, 3), (20, 8), (20, 8), (20, 8), (20, 8), (12, 30), (21, 2112), (20, 8), (20, 8), (21, 480), (20, 8), (20, 8), (20, 8), (20, 8), (20, 486), (21, 16), (21, 16), (21, 16), (20, 10), (20, 60), (20, 6), (20, 6), (20, 8), (22, 8)]
def z_ftl : List (List Nat) := [[2, 2, 2, 2, 2, 2, 0], [2, 2, 0, 1], [2, 2, 2, 2, 0, 0], [2, 2], [2, 2, 2, 2, 2, 2], [2, 0], [2, 2, 0], [2, 2, 2], [2, 2, 2, 0, 0, 0, 0, 0, 0], [2, 0, 0], [2, 2, 2, 2], [2, 2, 2, 2, 2, 2, 2, 2, 2, 2, 2, 2, 2, 0, 0], [2, 2, 2, 2, 0, 2, 2, 2, 2, 0, 2, 0, 0, 0, 2, 2, 2, 0, 0, 0, 0, 2, 2, 0, 2, 2, 0, 2, 2, 1]]
def z_ft (ci k : Nat) : Nat := (z_ftl.getD ci []).getD k 0
def z_ty (ci k : Nat) : FieldType := match ci with
  | 0 => tyX0 k
  | 1 => tyX1 k
  | 2 => tyX2 k
  | 3 => tyX3 k
  | 4 => tyX4 k
  | 5 => tyX5 k
  | 6 => tyX6 k
  | 7 => tyX7 k
  | 8 => tyX8 k
  | 9 => tyX9 k
  | 10 => tyX10 k
  | 11 => tyX11 k
  | 12 => tyX12 k
  | _ => .int
