def RX0 : String := "WeighedGate$Cart"
def TX0 : u_T := fun k => match k with
  | 0 => ("WeighedGate$Cart", "inward", "I", false)
  | 1 => ("WeighedGate$Cart", "kind", "I", false)
  | 2 => ("WeighedGate$Cart", "weight", "I", false)
  | 3 => ("WeighedGate$Cart", "value", "I", false)
  | _ => ("WeighedGate$Cart", "more", "I", false)
def tyX0 : Nat → FieldType := fun k => match k with
  | 0 => .int
  | 1 => .int
  | 2 => .int
  | 3 => .int
  | _ => .int
theorem nmX0 : ∀ a, a < 5 → ∀ b, b < 5 → a ≠ b → (TX0 a).2.1 ≠ (TX0 b).2.1 := by decide +kernel
theorem tyX0_ok : ∀ k, k < 5 → parseFieldDescriptor (TX0 k).2.2.1 = some (tyX0 k) := by decide +kernel
abbrev cX0_init : ByteArray := prog_2_method_1_code
def yX0_init : MethodName := ⟨RX0, "<init>", "()V"⟩
abbrev cX0_weighs : ByteArray := prog_2_method_2_code
def yX0_weighs : MethodName := ⟨RX0, "weighs", "(I)I"⟩
abbrev cX0_worth : ByteArray := prog_2_method_3_code
def yX0_worth : MethodName := ⟨RX0, "worth", "(I)I"⟩
abbrev cX0_spoiled : ByteArray := prog_2_method_4_code
def yX0_spoiled : MethodName := ⟨RX0, "spoiled", "(I)I"⟩
abbrev cX0_mayTurn : ByteArray := prog_2_method_5_code
def yX0_mayTurn : MethodName := ⟨RX0, "mayTurn", "()Z"⟩
abbrev cX0_isA : ByteArray := prog_2_method_6_code
def yX0_isA : MethodName := ⟨RX0, "isA", "(I)Z"⟩
def RX1 : String := "WeighedGate$Day"
def TX1 : u_T := fun k => match k with
  | 0 => ("WeighedGate$Day", "weighing", "LWeighedGate$Weighing;", true)
  | 1 => ("WeighedGate$Day", "yard", "LWeighedGate$Yard;", true)
  | 2 => ("WeighedGate$Day", "comes", "[I", true)
  | 3 => ("WeighedGate$Day", "rowHours", "[I", true)
  | 4 => ("WeighedGate$Day", "rowSets", "[I", true)
  | 5 => ("WeighedGate$Day", "rows", "I", false)
  | 6 => ("WeighedGate$Day", "earned", "I", false)
  | 7 => ("WeighedGate$Day", "through", "I", false)
  | 8 => ("WeighedGate$Day", "moreIn", "I", false)
  | _ => ("WeighedGate$Day", "longestWaited", "I", false)
def tyX1 : Nat → FieldType := fun k => match k with
  | 0 => .object "WeighedGate$Weighing"
  | 1 => .object "WeighedGate$Yard"
  | 2 => .array .int
  | 3 => .array .int
  | 4 => .array .int
  | 5 => .int
  | 6 => .int
  | 7 => .int
  | 8 => .int
  | _ => .int
theorem nmX1 : ∀ a, a < 10 → ∀ b, b < 10 → a ≠ b → (TX1 a).2.1 ≠ (TX1 b).2.1 := by decide +kernel
theorem tyX1_ok : ∀ k, k < 10 → parseFieldDescriptor (TX1 k).2.2.1 = some (tyX1 k) := by decide +kernel
abbrev cX1_init : ByteArray := prog_3_method_1_code
def yX1_init : MethodName := ⟨RX1, "<init>", "(LWeighedGate$Weighing;LWeighedGate$Yard;)V"⟩
abbrev cX1_takeComes : ByteArray := prog_3_method_2_code
def yX1_takeComes : MethodName := ⟨RX1, "takeComes", "()V"⟩
abbrev cX1_drawComes : ByteArray := prog_3_method_3_code
def yX1_drawComes : MethodName := ⟨RX1, "drawComes", "(I)V"⟩
abbrev cX1_run : ByteArray := prog_3_method_4_code
def yX1_run : MethodName := ⟨RX1, "run", "(IIILWeighedGate$Text;)V"⟩
abbrev cX1_noteBest : ByteArray := prog_3_method_5_code
def yX1_noteBest : MethodName := ⟨RX1, "noteBest", "(I)V"⟩
abbrev cX1_longestLeft : ByteArray := prog_3_method_6_code
def yX1_longestLeft : MethodName := ⟨RX1, "longestLeft", "(I)I"⟩
abbrev cX1_hourOf : ByteArray := prog_3_method_7_code
def yX1_hourOf : MethodName := ⟨RX1, "hourOf", "(I)I"⟩
abbrev cX1_setAt : ByteArray := prog_3_method_8_code
def yX1_setAt : MethodName := ⟨RX1, "setAt", "(I)I"⟩
abbrev cX1_isToldBy : ByteArray := prog_3_method_9_code
def yX1_isToldBy : MethodName := ⟨RX1, "isToldBy", "(LWeighedGate$Sheet;)Z"⟩
def RX2 : String := "WeighedGate$Image"
def TX2 : u_T := fun k => match k with
  | 0 => ("WeighedGate$Image", "isKept", "Z", false)
  | 1 => ("WeighedGate$Image", "lawNumber", "I", false)
  | 2 => ("WeighedGate$Image", "settings", "[I", true)
  | 3 => ("WeighedGate$Image", "stones", "[I", true)
  | 4 => ("WeighedGate$Image", "stoneCount", "I", false)
  | 5 => ("WeighedGate$Image", "comes", "[I", true)
  | 6 => ("WeighedGate$Image", "inward", "[I", true)
  | _ => ("WeighedGate$Image", "cartCount", "I", false)
def tyX2 : Nat → FieldType := fun k => match k with
  | 0 => .boolean
  | 1 => .int
  | 2 => .array .int
  | 3 => .array .int
  | 4 => .int
  | 5 => .array .int
  | 6 => .array .int
  | _ => .int
theorem nmX2 : ∀ a, a < 8 → ∀ b, b < 8 → a ≠ b → (TX2 a).2.1 ≠ (TX2 b).2.1 := by decide +kernel
theorem tyX2_ok : ∀ k, k < 8 → parseFieldDescriptor (TX2 k).2.2.1 = some (tyX2 k) := by decide +kernel
abbrev cX2_init : ByteArray := prog_4_method_1_code
def yX2_init : MethodName := ⟨RX2, "<init>", "()V"⟩
abbrev cX2_keep : ByteArray := prog_4_method_2_code
def yX2_keep : MethodName := ⟨RX2, "keep", "(LWeighedGate$Scale;LWeighedGate$Yard;I)V"⟩
abbrev cX2_giveBack : ByteArray := prog_4_method_3_code
def yX2_giveBack : MethodName := ⟨RX2, "giveBack", "(LWeighedGate$Scale;LWeighedGate$Yard;)V"⟩
def RX3 : String := "WeighedGate$Pairs"
def TX3 : u_T := fun k => match k with
  | 0 => ("WeighedGate$Pairs", "weighing", "LWeighedGate$Weighing;", true)
  | 1 => ("WeighedGate$Pairs", "yard", "LWeighedGate$Yard;", true)
  | 2 => ("WeighedGate$Pairs", "pays", "[I", true)
  | _ => ("WeighedGate$Pairs", "others", "[I", true)
def tyX3 : Nat → FieldType := fun k => match k with
  | 0 => .object "WeighedGate$Weighing"
  | 1 => .object "WeighedGate$Yard"
  | 2 => .array .int
  | _ => .array .int
theorem nmX3 : ∀ a, a < 4 → ∀ b, b < 4 → a ≠ b → (TX3 a).2.1 ≠ (TX3 b).2.1 := by decide +kernel
theorem tyX3_ok : ∀ k, k < 4 → parseFieldDescriptor (TX3 k).2.2.1 = some (tyX3 k) := by decide +kernel
abbrev cX3_init : ByteArray := prog_5_method_1_code
def yX3_init : MethodName := ⟨RX3, "<init>", "(LWeighedGate$Weighing;LWeighedGate$Yard;)V"⟩
abbrev cX3_prepare : ByteArray := prog_5_method_2_code
def yX3_prepare : MethodName := ⟨RX3, "prepare", "(ILWeighedGate$Text;)V"⟩
abbrev cX3_payOf : ByteArray := prog_5_method_3_code
def yX3_payOf : MethodName := ⟨RX3, "payOf", "(IILWeighedGate$Text;)I"⟩
abbrev cX3_fits : ByteArray := prog_5_method_4_code
def yX3_fits : MethodName := ⟨RX3, "fits", "(III)Z"⟩
abbrev cX3_mostPairs : ByteArray := prog_5_method_5_code
def yX3_mostPairs : MethodName := ⟨RX3, "mostPairs", "()I"⟩
abbrev cX3_mostBrought : ByteArray := prog_5_method_6_code
def yX3_mostBrought : MethodName := ⟨RX3, "mostBrought", "()I"⟩
abbrev cX3_most : ByteArray := prog_5_method_7_code
def yX3_most : MethodName := ⟨RX3, "most", "(IIZ)I"⟩
abbrev cX3_choose : ByteArray := prog_5_method_8_code
def yX3_choose : MethodName := ⟨RX3, "choose", "()V"⟩
abbrev cX3_firstOther : ByteArray := prog_5_method_9_code
def yX3_firstOther : MethodName := ⟨RX3, "firstOther", "(II)I"⟩
def RX4 : String := "WeighedGate$Reader"
def TX4 : u_T := fun k => match k with
  | 0 => ("WeighedGate$Reader", "tape", "[I", true)
  | 1 => ("WeighedGate$Reader", "size", "I", false)
  | 2 => ("WeighedGate$Reader", "next", "I", false)
  | 3 => ("WeighedGate$Reader", "place", "I", false)
  | 4 => ("WeighedGate$Reader", "token", "I", false)
  | 5 => ("WeighedGate$Reader", "open", "I", false)
  | 6 => ("WeighedGate$Reader", "fault", "I", false)
  | _ => ("WeighedGate$Reader", "into", "LWeighedGate$Text;", false)
def tyX4 : Nat → FieldType := fun k => match k with
  | 0 => .array .int
  | 1 => .int
  | 2 => .int
  | 3 => .int
  | 4 => .int
  | 5 => .int
  | 6 => .int
  | _ => .object "WeighedGate$Text"
theorem nmX4 : ∀ a, a < 8 → ∀ b, b < 8 → a ≠ b → (TX4 a).2.1 ≠ (TX4 b).2.1 := by decide +kernel
theorem tyX4_ok : ∀ k, k < 8 → parseFieldDescriptor (TX4 k).2.2.1 = some (tyX4 k) := by decide +kernel
abbrev cX4_init : ByteArray := prog_6_method_1_code
def yX4_init : MethodName := ⟨RX4, "<init>", "()V"⟩
abbrev cX4_put : ByteArray := prog_6_method_2_code
def yX4_put : MethodName := ⟨RX4, "put", "(I)V"⟩
abbrev cX4_readInto : ByteArray := prog_6_method_3_code
def yX4_readInto : MethodName := ⟨RX4, "readInto", "(LWeighedGate$Text;)I"⟩
abbrev cX4_fail : ByteArray := prog_6_method_4_code
def yX4_fail : MethodName := ⟨RX4, "fail", "()V"⟩
abbrev cX4_expect : ByteArray := prog_6_method_5_code
def yX4_expect : MethodName := ⟨RX4, "expect", "(I)V"⟩
abbrev cX4_readLevel : ByteArray := prog_6_method_6_code
def yX4_readLevel : MethodName := ⟨RX4, "readLevel", "(I)V"⟩
abbrev cX4_joins : ByteArray := prog_6_method_7_code
def yX4_joins : MethodName := ⟨RX4, "joins", "(II)Z"⟩
abbrev cX4_readOne : ByteArray := prog_6_method_8_code
def yX4_readOne : MethodName := ⟨RX4, "readOne", "()V"⟩
abbrev cX4_readBehind : ByteArray := prog_6_method_9_code
def yX4_readBehind : MethodName := ⟨RX4, "readBehind", "(II)V"⟩
abbrev cX4_opens : ByteArray := prog_6_method_10_code
def yX4_opens : MethodName := ⟨RX4, "opens", "()Z"⟩
abbrev cX4_advance : ByteArray := prog_6_method_11_code
def yX4_advance : MethodName := ⟨RX4, "advance", "()V"⟩
abbrev cX4_nextWord : ByteArray := prog_6_method_12_code
def yX4_nextWord : MethodName := ⟨RX4, "nextWord", "()I"⟩
abbrev cX4_nextNumber : ByteArray := prog_6_method_13_code
def yX4_nextNumber : MethodName := ⟨RX4, "nextNumber", "()I"⟩
abbrev cX4_spells : ByteArray := prog_6_method_14_code
def yX4_spells : MethodName := ⟨RX4, "spells", "(Ljava/lang/String;)Z"⟩
abbrev cX4_signOf : ByteArray := prog_6_method_15_code
def yX4_signOf : MethodName := ⟨RX4, "signOf", "(I)I"⟩
abbrev cX4_isBlank : ByteArray := prog_6_method_16_code
def yX4_isBlank : MethodName := ⟨RX4, "isBlank", "(I)Z"⟩
abbrev cX4_isLetter : ByteArray := prog_6_method_17_code
def yX4_isLetter : MethodName := ⟨RX4, "isLetter", "(I)Z"⟩
abbrev cX4_isDigit : ByteArray := prog_6_method_18_code
def yX4_isDigit : MethodName := ⟨RX4, "isDigit", "(I)Z"⟩
def RX5 : String := "WeighedGate$Scale"
def TX5 : u_T := fun k => match k with
  | 0 => ("WeighedGate$Scale", "settings", "[I", true)
  | 1 => ("WeighedGate$Scale", "stones", "[I", true)
  | 2 => ("WeighedGate$Scale", "stoneCount", "I", false)
  | _ => ("WeighedGate$Scale", "fewest", "[I", true)
def tyX5 : Nat → FieldType := fun k => match k with
  | 0 => .array .int
  | 1 => .array .int
  | 2 => .int
  | _ => .array .int
theorem nmX5 : ∀ a, a < 4 → ∀ b, b < 4 → a ≠ b → (TX5 a).2.1 ≠ (TX5 b).2.1 := by decide +kernel
theorem tyX5_ok : ∀ k, k < 4 → parseFieldDescriptor (TX5 k).2.2.1 = some (tyX5 k) := by decide +kernel
abbrev cX5_init : ByteArray := prog_7_method_1_code
def yX5_init : MethodName := ⟨RX5, "<init>", "()V"⟩
abbrev cX5_layAll : ByteArray := prog_7_method_2_code
def yX5_layAll : MethodName := ⟨RX5, "layAll", "()V"⟩
abbrev cX5_lay : ByteArray := prog_7_method_3_code
def yX5_lay : MethodName := ⟨RX5, "lay", "(III)V"⟩
abbrev cX5_fewestFor : ByteArray := prog_7_method_4_code
def yX5_fewestFor : MethodName := ⟨RX5, "fewestFor", "(I)I"⟩
abbrev cX5_makes : ByteArray := prog_7_method_5_code
def yX5_makes : MethodName := ⟨RX5, "makes", "(I)Z"⟩
abbrev cX5_madeWith : ByteArray := prog_7_method_6_code
def yX5_madeWith : MethodName := ⟨RX5, "madeWith", "(II)I"⟩
abbrev cX5_heavierFor : ByteArray := prog_7_method_7_code
def yX5_heavierFor : MethodName := ⟨RX5, "heavierFor", "(I)I"⟩
abbrev cX5_reaches : ByteArray := prog_7_method_8_code
def yX5_reaches : MethodName := ⟨RX5, "reaches", "(III)Z"⟩
abbrev cX5_offOf : ByteArray := prog_7_method_9_code
def yX5_offOf : MethodName := ⟨RX5, "offOf", "(I)I"⟩
abbrev cX5_stonesFor : ByteArray := prog_7_method_10_code
def yX5_stonesFor : MethodName := ⟨RX5, "stonesFor", "(II)I"⟩
def RX6 : String := "WeighedGate$Sheet"
def TX6 : u_T := fun k => match k with
  | 0 => ("WeighedGate$Sheet", "sort", "I", false)
  | 1 => ("WeighedGate$Sheet", "size", "I", false)
  | _ => ("WeighedGate$Sheet", "cells", "[I", true)
def tyX6 : Nat → FieldType := fun k => match k with
  | 0 => .int
  | 1 => .int
  | _ => .array .int
theorem nmX6 : ∀ a, a < 3 → ∀ b, b < 3 → a ≠ b → (TX6 a).2.1 ≠ (TX6 b).2.1 := by decide +kernel
theorem tyX6_ok : ∀ k, k < 3 → parseFieldDescriptor (TX6 k).2.2.1 = some (tyX6 k) := by decide +kernel
abbrev cX6_init : ByteArray := prog_8_method_1_code
def yX6_init : MethodName := ⟨RX6, "<init>", "()V"⟩
abbrev cX6_become : ByteArray := prog_8_method_2_code
def yX6_become : MethodName := ⟨RX6, "become", "(II)V"⟩
abbrev cX6_put : ByteArray := prog_8_method_3_code
def yX6_put : MethodName := ⟨RX6, "put", "(II)V"⟩
abbrev cX6_holds : ByteArray := prog_8_method_4_code
def yX6_holds : MethodName := ⟨RX6, "holds", "(II)Z"⟩
def RX7 : String := "WeighedGate$Text"
def TX7 : u_T := fun k => match k with
  | 0 => ("WeighedGate$Text", "code", "[I", true)
  | 1 => ("WeighedGate$Text", "ends", "[I", true)
  | 2 => ("WeighedGate$Text", "stack", "[I", true)
  | _ => ("WeighedGate$Text", "size", "I", false)
def tyX7 : Nat → FieldType := fun k => match k with
  | 0 => .array .int
  | 1 => .array .int
  | 2 => .array .int
  | _ => .int
theorem nmX7 : ∀ a, a < 4 → ∀ b, b < 4 → a ≠ b → (TX7 a).2.1 ≠ (TX7 b).2.1 := by decide +kernel
theorem tyX7_ok : ∀ k, k < 4 → parseFieldDescriptor (TX7 k).2.2.1 = some (tyX7 k) := by decide +kernel
abbrev cX7_init : ByteArray := prog_9_method_1_code
def yX7_init : MethodName := ⟨RX7, "<init>", "()V"⟩
abbrev cX7_clear : ByteArray := prog_9_method_2_code
def yX7_clear : MethodName := ⟨RX7, "clear", "()V"⟩
abbrev cX7_add : ByteArray := prog_9_method_3_code
def yX7_add : MethodName := ⟨RX7, "add", "(I)V"⟩
abbrev cX7_says : ByteArray := prog_9_method_4_code
def yX7_says : MethodName := ⟨RX7, "says", "(I[I)I"⟩
abbrev cX7_joined : ByteArray := prog_9_method_5_code
def yX7_joined : MethodName := ⟨RX7, "joined", "(III)I"⟩
def RX8 : String := "WeighedGate$Weighing"
def TX8 : u_T := fun k => match k with
  | 0 => ("WeighedGate$Weighing", "beam", "LWeighedGate$Scale;", true)
  | 1 => ("WeighedGate$Weighing", "yard", "LWeighedGate$Yard;", true)
  | 2 => ("WeighedGate$Weighing", "weights", "[I", true)
  | 3 => ("WeighedGate$Weighing", "worths", "[I", true)
  | 4 => ("WeighedGate$Weighing", "names", "[I", true)
  | 5 => ("WeighedGate$Weighing", "come", "I", false)
  | 6 => ("WeighedGate$Weighing", "inward", "I", false)
  | 7 => ("WeighedGate$Weighing", "set", "I", false)
  | 8 => ("WeighedGate$Weighing", "worth", "I", false)
  | 9 => ("WeighedGate$Weighing", "in", "I", false)
  | 10 => ("WeighedGate$Weighing", "out", "I", false)
  | 11 => ("WeighedGate$Weighing", "off", "I", false)
  | 12 => ("WeighedGate$Weighing", "stones", "I", false)
  | 13 => ("WeighedGate$Weighing", "bestSet", "I", false)
  | _ => ("WeighedGate$Weighing", "bestBrings", "I", false)
def tyX8 : Nat → FieldType := fun k => match k with
  | 0 => .object "WeighedGate$Scale"
  | 1 => .object "WeighedGate$Yard"
  | 2 => .array .int
  | 3 => .array .int
  | 4 => .array .int
  | 5 => .int
  | 6 => .int
  | 7 => .int
  | 8 => .int
  | 9 => .int
  | 10 => .int
  | 11 => .int
  | 12 => .int
  | 13 => .int
  | _ => .int
theorem nmX8 : ∀ a, a < 15 → ∀ b, b < 15 → a ≠ b → (TX8 a).2.1 ≠ (TX8 b).2.1 := by decide +kernel
theorem tyX8_ok : ∀ k, k < 15 → parseFieldDescriptor (TX8 k).2.2.1 = some (tyX8 k) := by decide +kernel
abbrev cX8_init : ByteArray := prog_10_method_1_code
def yX8_init : MethodName := ⟨RX8, "<init>", "(LWeighedGate$Scale;LWeighedGate$Yard;)V"⟩
abbrev cX8_prepare : ByteArray := prog_10_method_2_code
def yX8_prepare : MethodName := ⟨RX8, "prepare", "(I[I)V"⟩
abbrev cX8_isInward : ByteArray := prog_10_method_3_code
def yX8_isInward : MethodName := ⟨RX8, "isInward", "(I)Z"⟩
abbrev cX8_weightOf : ByteArray := prog_10_method_4_code
def yX8_weightOf : MethodName := ⟨RX8, "weightOf", "(I)I"⟩
abbrev cX8_worthOf : ByteArray := prog_10_method_5_code
def yX8_worthOf : MethodName := ⟨RX8, "worthOf", "(I)I"⟩
abbrev cX8_weigh : ByteArray := prog_10_method_6_code
def yX8_weigh : MethodName := ⟨RX8, "weigh", "(I)V"⟩
abbrev cX8_fillsPans : ByteArray := prog_10_method_7_code
def yX8_fillsPans : MethodName := ⟨RX8, "fillsPans", "(I)Z"⟩
abbrev cX8_mayBe : ByteArray := prog_10_method_8_code
def yX8_mayBe : MethodName := ⟨RX8, "mayBe", "(LWeighedGate$Text;)Z"⟩
abbrev cX8_brings : ByteArray := prog_10_method_9_code
def yX8_brings : MethodName := ⟨RX8, "brings", "(LWeighedGate$Text;)I"⟩
abbrev cX8_findBest : ByteArray := prog_10_method_10_code
def yX8_findBest : MethodName := ⟨RX8, "findBest", "(ILWeighedGate$Text;)V"⟩
def RX9 : String := "WeighedGate$Yard"
def TX9 : u_T := fun k => match k with
  | 0 => ("WeighedGate$Yard", "carts", "[LWeighedGate$Cart;", true)
  | 1 => ("WeighedGate$Yard", "comes", "[I", true)
  | _ => ("WeighedGate$Yard", "size", "I", false)
def tyX9 : Nat → FieldType := fun k => match k with
  | 0 => .array (.object "WeighedGate$Cart")
  | 1 => .array .int
  | _ => .int
theorem nmX9 : ∀ a, a < 3 → ∀ b, b < 3 → a ≠ b → (TX9 a).2.1 ≠ (TX9 b).2.1 := by decide +kernel
theorem tyX9_ok : ∀ k, k < 3 → parseFieldDescriptor (TX9 k).2.2.1 = some (tyX9 k) := by decide +kernel
abbrev cX9_init : ByteArray := prog_11_method_1_code
def yX9_init : MethodName := ⟨RX9, "<init>", "()V"⟩
abbrev cX9_has : ByteArray := prog_11_method_2_code
def yX9_has : MethodName := ⟨RX9, "has", "(I)Z"⟩
abbrev cX9_all : ByteArray := prog_11_method_3_code
def yX9_all : MethodName := ⟨RX9, "all", "()I"⟩
abbrev cX9_hasAll : ByteArray := prog_11_method_4_code
def yX9_hasAll : MethodName := ⟨RX9, "hasAll", "(I)Z"⟩
def RX10 : String := "WeighedGate"
def TX10 : u_T := fun k => match k with
  | 0 => ("WeighedGate", "beam", "LWeighedGate$Scale;", true)
  | 1 => ("WeighedGate", "yard", "LWeighedGate$Yard;", true)
  | 2 => ("WeighedGate", "texts", "[LWeighedGate$Text;", true)
  | 3 => ("WeighedGate", "textCount", "I", false)
  | 4 => ("WeighedGate", "lawNumber", "I", false)
  | 5 => ("WeighedGate", "reader", "LWeighedGate$Reader;", true)
  | 6 => ("WeighedGate", "weighing", "LWeighedGate$Weighing;", true)
  | 7 => ("WeighedGate", "pairing", "LWeighedGate$Pairs;", true)
  | 8 => ("WeighedGate", "day", "LWeighedGate$Day;", true)
  | 9 => ("WeighedGate", "sheets", "[LWeighedGate$Sheet;", true)
  | 10 => ("WeighedGate", "kept", "LWeighedGate$Image;", true)
  | _ => ("WeighedGate", "asked", "[I", true)
def tyX10 : Nat → FieldType := fun k => match k with
  | 0 => .object "WeighedGate$Scale"
  | 1 => .object "WeighedGate$Yard"
  | 2 => .array (.object "WeighedGate$Text")
  | 3 => .int
  | 4 => .int
  | 5 => .object "WeighedGate$Reader"
  | 6 => .object "WeighedGate$Weighing"
  | 7 => .object "WeighedGate$Pairs"
  | 8 => .object "WeighedGate$Day"
  | 9 => .array (.object "WeighedGate$Sheet")
  | 10 => .object "WeighedGate$Image"
  | _ => .array .int
theorem nmX10 : ∀ a, a < 12 → ∀ b, b < 12 → a ≠ b → (TX10 a).2.1 ≠ (TX10 b).2.1 := by decide +kernel
theorem tyX10_ok : ∀ k, k < 12 → parseFieldDescriptor (TX10 k).2.2.1 = some (tyX10 k) := by decide +kernel
abbrev cX10_init : ByteArray := prog_1_method_1_code
def yX10_init : MethodName := ⟨RX10, "<init>", "()V"⟩
abbrev cX10_scale : ByteArray := prog_1_method_2_code
def yX10_scale : MethodName := ⟨RX10, "scale", "(II)I"⟩
abbrev cX10_stone : ByteArray := prog_1_method_3_code
def yX10_stone : MethodName := ⟨RX10, "stone", "(I)I"⟩
abbrev cX10_sell : ByteArray := prog_1_method_4_code
def yX10_sell : MethodName := ⟨RX10, "sell", "()I"⟩
abbrev cX10_stoneTold : ByteArray := prog_1_method_5_code
def yX10_stoneTold : MethodName := ⟨RX10, "stoneTold", "(I)I"⟩
abbrev cX10_count : ByteArray := prog_1_method_6_code
def yX10_count : MethodName := ⟨RX10, "count", "(I)I"⟩
abbrev cX10_feed : ByteArray := prog_1_method_7_code
def yX10_feed : MethodName := ⟨RX10, "feed", "(IIIIII)I"⟩
abbrev cX10_text : ByteArray := prog_1_method_8_code
def yX10_text : MethodName := ⟨RX10, "text", "()I"⟩
abbrev cX10_force : ByteArray := prog_1_method_9_code
def yX10_force : MethodName := ⟨RX10, "force", "(I)I"⟩
abbrev cX10_asks : ByteArray := prog_1_method_10_code
def yX10_asks : MethodName := ⟨RX10, "asks", "(IIII)I"⟩
abbrev cX10_cart : ByteArray := prog_1_method_11_code
def yX10_cart : MethodName := ⟨RX10, "cart", "(IIIII)I"⟩
abbrev cX10_set : ByteArray := prog_1_method_12_code
def yX10_set : MethodName := ⟨RX10, "set", "(III)I"⟩
abbrev cX10_cartTold : ByteArray := prog_1_method_13_code
def yX10_cartTold : MethodName := ⟨RX10, "cartTold", "(II)I"⟩
abbrev cX10_at : ByteArray := prog_1_method_14_code
def yX10_at : MethodName := ⟨RX10, "at", "(III)I"⟩
abbrev cX10_make : ByteArray := prog_1_method_15_code
def yX10_make : MethodName := ⟨RX10, "make", "(I)I"⟩
abbrev cX10_makings : ByteArray := prog_1_method_16_code
def yX10_makings : MethodName := ⟨RX10, "makings", "(II)I"⟩
abbrev cX10_own : ByteArray := prog_1_method_17_code
def yX10_own : MethodName := ⟨RX10, "own", "(II)I"⟩
abbrev cX10_falsely : ByteArray := prog_1_method_18_code
def yX10_falsely : MethodName := ⟨RX10, "falsely", "(I)I"⟩
abbrev cX10_scales : ByteArray := prog_1_method_19_code
def yX10_scales : MethodName := ⟨RX10, "scales", "(III)I"⟩
abbrev cX10_pairs : ByteArray := prog_1_method_20_code
def yX10_pairs : MethodName := ⟨RX10, "pairs", "(II)I"⟩
abbrev cX10_against : ByteArray := prog_1_method_21_code
def yX10_against : MethodName := ⟨RX10, "against", "(II)I"⟩
abbrev cX10_best : ByteArray := prog_1_method_22_code
def yX10_best : MethodName := ⟨RX10, "best", "(II)I"⟩
abbrev cX10_dusk : ByteArray := prog_1_method_23_code
def yX10_dusk : MethodName := ⟨RX10, "dusk", "(II)I"⟩
abbrev cX10_goes : ByteArray := prog_1_method_24_code
def yX10_goes : MethodName := ⟨RX10, "goes", "(II)I"⟩
abbrev cX10_hold : ByteArray := prog_1_method_25_code
def yX10_hold : MethodName := ⟨RX10, "hold", "(I)I"⟩
abbrev cX10_gain : ByteArray := prog_1_method_26_code
def yX10_gain : MethodName := ⟨RX10, "gain", "(I)I"⟩
abbrev cX10_bring : ByteArray := prog_1_method_27_code
def yX10_bring : MethodName := ⟨RX10, "bring", "(II)I"⟩
abbrev cX10_judge : ByteArray := prog_1_method_28_code
def yX10_judge : MethodName := ⟨RX10, "judge", "(I)I"⟩
abbrev cX10_laws : ByteArray := prog_1_method_29_code
def yX10_laws : MethodName := ⟨RX10, "laws", "(I)I"⟩
abbrev cX10_film : ByteArray := prog_1_method_30_code
def yX10_film : MethodName := ⟨RX10, "film", "(I)I"⟩
abbrev cX10_lost : ByteArray := prog_1_method_31_code
def yX10_lost : MethodName := ⟨RX10, "lost", "(IIII)I"⟩
abbrev cX10_drawn : ByteArray := prog_1_method_32_code
def yX10_drawn : MethodName := ⟨RX10, "drawn", "(II)I"⟩
abbrev cX10_odds : ByteArray := prog_1_method_33_code
def yX10_odds : MethodName := ⟨RX10, "odds", "(IIII)J"⟩
abbrev cX10_image : ByteArray := prog_1_method_34_code
def yX10_image : MethodName := ⟨RX10, "image", "()I"⟩
abbrev cX10_back : ByteArray := prog_1_method_35_code
def yX10_back : MethodName := ⟨RX10, "back", "()I"⟩
abbrev cX10_sheet : ByteArray := prog_1_method_36_code
def yX10_sheet : MethodName := ⟨RX10, "sheet", "(III)I"⟩
abbrev cX10_cell : ByteArray := prog_1_method_37_code
def yX10_cell : MethodName := ⟨RX10, "cell", "(III)I"⟩
abbrev cX10_copy : ByteArray := prog_1_method_38_code
def yX10_copy : MethodName := ⟨RX10, "copy", "(IIIII)I"⟩
abbrev cX10_cartsBy : ByteArray := prog_1_method_39_code
def yX10_cartsBy : MethodName := ⟨RX10, "cartsBy", "(IIII)I"⟩
abbrev cX10_taken : ByteArray := prog_1_method_40_code
def yX10_taken : MethodName := ⟨RX10, "taken", "(II)I"⟩
abbrev cX10_within : ByteArray := prog_1_method_41_code
def yX10_within : MethodName := ⟨RX10, "within", "(III)Z"⟩
abbrev cX10_isByte : ByteArray := prog_1_method_42_code
def yX10_isByte : MethodName := ⟨RX10, "isByte", "(I)Z"⟩
abbrev cX10_isHour : ByteArray := prog_1_method_43_code
def yX10_isHour : MethodName := ⟨RX10, "isHour", "(I)Z"⟩
abbrev cX10_isDifference : ByteArray := prog_1_method_44_code
def yX10_isDifference : MethodName := ⟨RX10, "isDifference", "(I)Z"⟩
abbrev cX10_isSeed : ByteArray := prog_1_method_45_code
def yX10_isSeed : MethodName := ⟨RX10, "isSeed", "(I)Z"⟩
abbrev cX10_isSheet : ByteArray := prog_1_method_46_code
def yX10_isSheet : MethodName := ⟨RX10, "isSheet", "(I)Z"⟩
abbrev cX10_waited : ByteArray := prog_1_method_47_code
def yX10_waited : MethodName := ⟨RX10, "waited", "(II)I"⟩
abbrev cX10_commonDivisor : ByteArray := prog_1_method_48_code
def yX10_commonDivisor : MethodName := ⟨RX10, "commonDivisor", "(II)I"⟩
abbrev cX10_law : ByteArray := prog_1_method_49_code
def yX10_law : MethodName := ⟨RX10, "law", "()LWeighedGate$Text;"⟩
abbrev cX10_runTillDusk : ByteArray := prog_1_method_50_code
def yX10_runTillDusk : MethodName := ⟨RX10, "runTillDusk", "()V"⟩
abbrev cX10_runDrawn : ByteArray := prog_1_method_51_code
def yX10_runDrawn : MethodName := ⟨RX10, "runDrawn", "(I)V"⟩
abbrev cX10_refusalOfRows : ByteArray := prog_1_method_52_code
def yX10_refusalOfRows : MethodName := ⟨RX10, "refusalOfRows", "(I)I"⟩
abbrev cX10_isWeighingThatMayBe : ByteArray := prog_1_method_53_code
def yX10_isWeighingThatMayBe : MethodName := ⟨RX10, "isWeighingThatMayBe", "(II)Z"⟩
def RX11 : String := "WeighedGateModel"
def TX11 : u_T := fun k => match k with
  | 0 => ("WeighedGateModel", "scaleOf", "[I", true)
  | 1 => ("WeighedGateModel", "stones", "I", false)
  | 2 => ("WeighedGateModel", "stoneOf", "[I", true)
  | 3 => ("WeighedGateModel", "carts", "I", false)
  | 4 => ("WeighedGateModel", "inward", "[I", true)
  | 5 => ("WeighedGateModel", "kind", "[I", true)
  | 6 => ("WeighedGateModel", "weightOf", "[I", true)
  | 7 => ("WeighedGateModel", "valueOf", "[I", true)
  | 8 => ("WeighedGateModel", "moreOf", "[I", true)
  | 9 => ("WeighedGateModel", "comesAt", "[I", true)
  | 10 => ("WeighedGateModel", "tape", "[I", true)
  | 11 => ("WeighedGateModel", "taped", "I", false)
  | 12 => ("WeighedGateModel", "codes", "[I", true)
  | 13 => ("WeighedGateModel", "starts", "[I", true)
  | 14 => ("WeighedGateModel", "texts", "I", false)
  | 15 => ("WeighedGateModel", "rule", "I", false)
  | 16 => ("WeighedGateModel", "hasImage", "Z", false)
  | 17 => ("WeighedGateModel", "imageStones", "I", false)
  | 18 => ("WeighedGateModel", "imageCarts", "I", false)
  | 19 => ("WeighedGateModel", "imageRule", "I", false)
  | 20 => ("WeighedGateModel", "imageScale", "[I", true)
  | 21 => ("WeighedGateModel", "imageStone", "[I", true)
  | 22 => ("WeighedGateModel", "imageComes", "[I", true)
  | 23 => ("WeighedGateModel", "imageInward", "[I", true)
  | 24 => ("WeighedGateModel", "sheetSort", "[I", true)
  | 25 => ("WeighedGateModel", "sheetSize", "[I", true)
  | 26 => ("WeighedGateModel", "cells", "[I", true)
  | 27 => ("WeighedGateModel", "law", "[I", true)
  | 28 => ("WeighedGateModel", "at", "I", false)
  | 29 => ("WeighedGateModel", "begun", "I", false)
  | 30 => ("WeighedGateModel", "token", "I", false)
  | 31 => ("WeighedGateModel", "value", "I", false)
  | 32 => ("WeighedGateModel", "words", "[I", true)
  | 33 => ("WeighedGateModel", "held", "[I", true)
  | 34 => ("WeighedGateModel", "heldMany", "I", false)
  | 35 => ("WeighedGateModel", "opens", "I", false)
  | 36 => ("WeighedGateModel", "out", "I", false)
  | 37 => ("WeighedGateModel", "stack", "[I", true)
  | 38 => ("WeighedGateModel", "named", "[I", true)
  | 39 => ("WeighedGateModel", "made", "[I", true)
  | 40 => ("WeighedGateModel", "panIn", "I", false)
  | 41 => ("WeighedGateModel", "panOut", "I", false)
  | 42 => ("WeighedGateModel", "off", "I", false)
  | 43 => ("WeighedGateModel", "used", "I", false)
  | 44 => ("WeighedGateModel", "mayBe", "Z", false)
  | 45 => ("WeighedGateModel", "brings", "I", false)
  | 46 => ("WeighedGateModel", "bringing", "[I", true)
  | 47 => ("WeighedGateModel", "partner", "[I", true)
  | 48 => ("WeighedGateModel", "bestPartner", "[I", true)
  | 49 => ("WeighedGateModel", "mostPairs", "I", false)
  | 50 => ("WeighedGateModel", "mostBrings", "I", false)
  | 51 => ("WeighedGateModel", "bestSet", "I", false)
  | 52 => ("WeighedGateModel", "bestBrings", "I", false)
  | 53 => ("WeighedGateModel", "goesAt", "[I", true)
  | 54 => ("WeighedGateModel", "setAt", "[I", true)
  | 55 => ("WeighedGateModel", "through", "I", false)
  | 56 => ("WeighedGateModel", "earned", "I", false)
  | 57 => ("WeighedGateModel", "moreIn", "I", false)
  | 58 => ("WeighedGateModel", "skipped", "I", false)
  | 59 => ("WeighedGateModel", "absent", "I", false)
  | _ => ("WeighedGateModel", "keptComes", "[I", true)
def tyX11 : Nat → FieldType := fun k => match k with
  | 0 => .array .int
  | 1 => .int
  | 2 => .array .int
  | 3 => .int
  | 4 => .array .int
  | 5 => .array .int
  | 6 => .array .int
  | 7 => .array .int
  | 8 => .array .int
  | 9 => .array .int
  | 10 => .array .int
  | 11 => .int
  | 12 => .array .int
  | 13 => .array .int
  | 14 => .int
  | 15 => .int
  | 16 => .boolean
  | 17 => .int
  | 18 => .int
  | 19 => .int
  | 20 => .array .int
  | 21 => .array .int
  | 22 => .array .int
  | 23 => .array .int
  | 24 => .array .int
  | 25 => .array .int
  | 26 => .array .int
  | 27 => .array .int
  | 28 => .int
  | 29 => .int
  | 30 => .int
  | 31 => .int
  | 32 => .array .int
  | 33 => .array .int
  | 34 => .int
  | 35 => .int
  | 36 => .int
  | 37 => .array .int
  | 38 => .array .int
  | 39 => .array .int
  | 40 => .int
  | 41 => .int
  | 42 => .int
  | 43 => .int
  | 44 => .boolean
  | 45 => .int
  | 46 => .array .int
  | 47 => .array .int
  | 48 => .array .int
  | 49 => .int
  | 50 => .int
  | 51 => .int
  | 52 => .int
  | 53 => .array .int
  | 54 => .array .int
  | 55 => .int
  | 56 => .int
  | 57 => .int
  | 58 => .int
  | 59 => .int
  | _ => .array .int
theorem nmX11 : ∀ a, a < 61 → ∀ b, b < 61 → a ≠ b → (TX11 a).2.1 ≠ (TX11 b).2.1 := by decide +kernel
theorem tyX11_ok : ∀ k, k < 61 → parseFieldDescriptor (TX11 k).2.2.1 = some (tyX11 k) := by decide +kernel
abbrev cX11_init : ByteArray := prog_13_method_1_code
def yX11_init : MethodName := ⟨RX11, "<init>", "()V"⟩
abbrev cX11_in : ByteArray := prog_13_method_3_code
def yX11_in : MethodName := ⟨RX11, "in", "(III)Z"⟩
abbrev cX11_within : ByteArray := prog_13_method_4_code
def yX11_within : MethodName := ⟨RX11, "within", "(III)I"⟩
abbrev cX11_apart : ByteArray := prog_13_method_5_code
def yX11_apart : MethodName := ⟨RX11, "apart", "(II)I"⟩
abbrev cX11_ones : ByteArray := prog_13_method_6_code
def yX11_ones : MethodName := ⟨RX11, "ones", "(I)I"⟩
abbrev cX11_isCart : ByteArray := prog_13_method_7_code
def yX11_isCart : MethodName := ⟨RX11, "isCart", "(I)Z"⟩
abbrev cX11_isHour : ByteArray := prog_13_method_8_code
def yX11_isHour : MethodName := ⟨RX11, "isHour", "(I)Z"⟩
abbrev cX11_allCarts : ByteArray := prog_13_method_9_code
def yX11_allCarts : MethodName := ⟨RX11, "allCarts", "()I"⟩
abbrev cX11_scale : ByteArray := prog_13_method_10_code
def yX11_scale : MethodName := ⟨RX11, "scale", "(II)I"⟩
abbrev cX11_stone : ByteArray := prog_13_method_11_code
def yX11_stone : MethodName := ⟨RX11, "stone", "(I)I"⟩
abbrev cX11_sell : ByteArray := prog_13_method_12_code
def yX11_sell : MethodName := ⟨RX11, "sell", "()I"⟩
abbrev cX11_stoneTold : ByteArray := prog_13_method_13_code
def yX11_stoneTold : MethodName := ⟨RX11, "stoneTold", "(I)I"⟩
abbrev cX11_count : ByteArray := prog_13_method_14_code
def yX11_count : MethodName := ⟨RX11, "count", "(I)I"⟩
abbrev cX11_isByte : ByteArray := prog_13_method_15_code
def yX11_isByte : MethodName := ⟨RX11, "isByte", "(I)Z"⟩
abbrev cX11_feed : ByteArray := prog_13_method_16_code
def yX11_feed : MethodName := ⟨RX11, "feed", "(IIIIII)I"⟩
abbrev cX11_wordFrom : ByteArray := prog_13_method_17_code
def yX11_wordFrom : MethodName := ⟨RX11, "wordFrom", "(II)I"⟩
abbrev cX11_next : ByteArray := prog_13_method_18_code
def yX11_next : MethodName := ⟨RX11, "next", "()V"⟩
abbrev cX11_rank : ByteArray := prog_13_method_19_code
def yX11_rank : MethodName := ⟨RX11, "rank", "(I)I"⟩
abbrev cX11_puts : ByteArray := prog_13_method_20_code
def yX11_puts : MethodName := ⟨RX11, "puts", "(I)V"⟩
abbrev cX11_unwinds : ByteArray := prog_13_method_21_code
def yX11_unwinds : MethodName := ⟨RX11, "unwinds", "(I)V"⟩
abbrev cX11_holds : ByteArray := prog_13_method_22_code
def yX11_holds : MethodName := ⟨RX11, "holds", "(I)V"⟩
abbrev cX11_opensOne : ByteArray := prog_13_method_23_code
def yX11_opensOne : MethodName := ⟨RX11, "opensOne", "(I)Z"⟩
abbrev cX11_between : ByteArray := prog_13_method_24_code
def yX11_between : MethodName := ⟨RX11, "between", "(I)Z"⟩
abbrev cX11_signOf : ByteArray := prog_13_method_25_code
def yX11_signOf : MethodName := ⟨RX11, "signOf", "()I"⟩
abbrev cX11_eRead : ByteArray := prog_13_method_26_code
def yX11_eRead : MethodName := ⟨RX11, "eRead", "()Z"⟩
abbrev cX11_text : ByteArray := prog_13_method_27_code
def yX11_text : MethodName := ⟨RX11, "text", "()I"⟩
abbrev cX11_two : ByteArray := prog_13_method_28_code
def yX11_two : MethodName := ⟨RX11, "two", "(III)I"⟩
abbrev cX11_worth : ByteArray := prog_13_method_29_code
def yX11_worth : MethodName := ⟨RX11, "worth", "(I)I"⟩
abbrev cX11_force : ByteArray := prog_13_method_30_code
def yX11_force : MethodName := ⟨RX11, "force", "(I)I"⟩
abbrev cX11_asksOf : ByteArray := prog_13_method_31_code
def yX11_asksOf : MethodName := ⟨RX11, "asksOf", "(IIIIIII)I"⟩
abbrev cX11_asks : ByteArray := prog_13_method_32_code
def yX11_asks : MethodName := ⟨RX11, "asks", "(IIII)I"⟩
abbrev cX11_cart : ByteArray := prog_13_method_33_code
def yX11_cart : MethodName := ⟨RX11, "cart", "(IIIII)I"⟩
abbrev cX11_set : ByteArray := prog_13_method_34_code
def yX11_set : MethodName := ⟨RX11, "set", "(III)I"⟩
abbrev cX11_cartTold : ByteArray := prog_13_method_35_code
def yX11_cartTold : MethodName := ⟨RX11, "cartTold", "(II)I"⟩
abbrev cX11_waited : ByteArray := prog_13_method_36_code
def yX11_waited : MethodName := ⟨RX11, "waited", "(II)I"⟩
abbrev cX11_weighs : ByteArray := prog_13_method_37_code
def yX11_weighs : MethodName := ⟨RX11, "weighs", "(II)I"⟩
abbrev cX11_worthAt : ByteArray := prog_13_method_38_code
def yX11_worthAt : MethodName := ⟨RX11, "worthAt", "(II)I"⟩
abbrev cX11_at : ByteArray := prog_13_method_39_code
def yX11_at : MethodName := ⟨RX11, "at", "(III)I"⟩
abbrev cX11_makes : ByteArray := prog_13_method_40_code
def yX11_makes : MethodName := ⟨RX11, "makes", "(III)V"⟩
abbrev cX11_findsMade : ByteArray := prog_13_method_41_code
def yX11_findsMade : MethodName := ⟨RX11, "findsMade", "()V"⟩
abbrev cX11_madeBy : ByteArray := prog_13_method_42_code
def yX11_madeBy : MethodName := ⟨RX11, "madeBy", "(I)I"⟩
abbrev cX11_make : ByteArray := prog_13_method_43_code
def yX11_make : MethodName := ⟨RX11, "make", "(I)I"⟩
abbrev cX11_makings : ByteArray := prog_13_method_44_code
def yX11_makings : MethodName := ⟨RX11, "makings", "(II)I"⟩
abbrev cX11_own : ByteArray := prog_13_method_45_code
def yX11_own : MethodName := ⟨RX11, "own", "(II)I"⟩
abbrev cX11_falsely : ByteArray := prog_13_method_46_code
def yX11_falsely : MethodName := ⟨RX11, "falsely", "(I)I"⟩
abbrev cX11_fewer : ByteArray := prog_13_method_47_code
def yX11_fewer : MethodName := ⟨RX11, "fewer", "(II)I"⟩
abbrev cX11_weighing : ByteArray := prog_13_method_48_code
def yX11_weighing : MethodName := ⟨RX11, "weighing", "(II)V"⟩
abbrev cX11_scales : ByteArray := prog_13_method_49_code
def yX11_scales : MethodName := ⟨RX11, "scales", "(III)I"⟩
abbrev cX11_findsTwos : ByteArray := prog_13_method_50_code
def yX11_findsTwos : MethodName := ⟨RX11, "findsTwos", "(I)V"⟩
abbrev cX11_pairsFrom : ByteArray := prog_13_method_51_code
def yX11_pairsFrom : MethodName := ⟨RX11, "pairsFrom", "(IIII)V"⟩
abbrev cX11_findsPairs : ByteArray := prog_13_method_52_code
def yX11_findsPairs : MethodName := ⟨RX11, "findsPairs", "(I)V"⟩
abbrev cX11_pairs : ByteArray := prog_13_method_53_code
def yX11_pairs : MethodName := ⟨RX11, "pairs", "(II)I"⟩
abbrev cX11_against : ByteArray := prog_13_method_54_code
def yX11_against : MethodName := ⟨RX11, "against", "(II)I"⟩
abbrev cX11_findsBest : ByteArray := prog_13_method_55_code
def yX11_findsBest : MethodName := ⟨RX11, "findsBest", "(II)V"⟩
abbrev cX11_best : ByteArray := prog_13_method_56_code
def yX11_best : MethodName := ⟨RX11, "best", "(II)I"⟩
abbrev cX11_lives : ByteArray := prog_13_method_57_code
def yX11_lives : MethodName := ⟨RX11, "lives", "(I)V"⟩
abbrev cX11_goesThrough : ByteArray := prog_13_method_58_code
def yX11_goesThrough : MethodName := ⟨RX11, "goesThrough", "(I)V"⟩
abbrev cX11_earnedBy : ByteArray := prog_13_method_59_code
def yX11_earnedBy : MethodName := ⟨RX11, "earnedBy", "()I"⟩
abbrev cX11_dusk : ByteArray := prog_13_method_60_code
def yX11_dusk : MethodName := ⟨RX11, "dusk", "(II)I"⟩
abbrev cX11_goes : ByteArray := prog_13_method_61_code
def yX11_goes : MethodName := ⟨RX11, "goes", "(II)I"⟩
abbrev cX11_hold : ByteArray := prog_13_method_62_code
def yX11_hold : MethodName := ⟨RX11, "hold", "(I)I"⟩
abbrev cX11_gain : ByteArray := prog_13_method_63_code
def yX11_gain : MethodName := ⟨RX11, "gain", "(I)I"⟩
abbrev cX11_bring : ByteArray := prog_13_method_64_code
def yX11_bring : MethodName := ⟨RX11, "bring", "(II)I"⟩
abbrev cX11_sheetWrong : ByteArray := prog_13_method_65_code
def yX11_sheetWrong : MethodName := ⟨RX11, "sheetWrong", "(I)I"⟩
abbrev cX11_isRow : ByteArray := prog_13_method_66_code
def yX11_isRow : MethodName := ⟨RX11, "isRow", "(IIII)Z"⟩
abbrev cX11_judge : ByteArray := prog_13_method_67_code
def yX11_judge : MethodName := ⟨RX11, "judge", "(I)I"⟩
abbrev cX11_rowsOfDay : ByteArray := prog_13_method_68_code
def yX11_rowsOfDay : MethodName := ⟨RX11, "rowsOfDay", "()I"⟩
abbrev cX11_areRows : ByteArray := prog_13_method_69_code
def yX11_areRows : MethodName := ⟨RX11, "areRows", "(I)Z"⟩
abbrev cX11_laws : ByteArray := prog_13_method_70_code
def yX11_laws : MethodName := ⟨RX11, "laws", "(I)I"⟩
abbrev cX11_film : ByteArray := prog_13_method_71_code
def yX11_film : MethodName := ⟨RX11, "film", "(I)I"⟩
abbrev cX11_lost : ByteArray := prog_13_method_72_code
def yX11_lost : MethodName := ⟨RX11, "lost", "(IIII)I"⟩
abbrev cX11_draws : ByteArray := prog_13_method_73_code
def yX11_draws : MethodName := ⟨RX11, "draws", "(I)V"⟩
abbrev cX11_drawn : ByteArray := prog_13_method_74_code
def yX11_drawn : MethodName := ⟨RX11, "drawn", "(II)I"⟩
abbrev cX11_lowest : ByteArray := prog_13_method_75_code
def yX11_lowest : MethodName := ⟨RX11, "lowest", "(JJI)J"⟩
abbrev cX11_odds : ByteArray := prog_13_method_76_code
def yX11_odds : MethodName := ⟨RX11, "odds", "(IIII)J"⟩
abbrev cX11_image : ByteArray := prog_13_method_77_code
def yX11_image : MethodName := ⟨RX11, "image", "()I"⟩
abbrev cX11_back : ByteArray := prog_13_method_78_code
def yX11_back : MethodName := ⟨RX11, "back", "()I"⟩
abbrev cX11_sheet : ByteArray := prog_13_method_79_code
def yX11_sheet : MethodName := ⟨RX11, "sheet", "(III)I"⟩
abbrev cX11_cell : ByteArray := prog_13_method_80_code
def yX11_cell : MethodName := ⟨RX11, "cell", "(III)I"⟩
abbrev cX11_copy : ByteArray := prog_13_method_81_code
def yX11_copy : MethodName := ⟨RX11, "copy", "(IIIII)I"⟩
abbrev cX11_cartsBy : ByteArray := prog_13_method_82_code
def yX11_cartsBy : MethodName := ⟨RX11, "cartsBy", "(IIII)I"⟩
abbrev cX11_isUnder : ByteArray := prog_13_method_83_code
def yX11_isUnder : MethodName := ⟨RX11, "isUnder", "(II)Z"⟩
abbrev cX11_taken : ByteArray := prog_13_method_84_code
def yX11_taken : MethodName := ⟨RX11, "taken", "(II)I"⟩
def RJ6 : String := "java/lang/Integer"
abbrev cJ6_bitCount_0f7a4 : ByteArray := prog_14_method_49_code
def yJ6_bitCount_0f7a4 : MethodName := ⟨RJ6, "bitCount", "(I)I"⟩
def RJ9 : String := "java/lang/Math"
abbrev cJ9_abs_0f7a4 : ByteArray := prog_15_method_59_code
def yJ9_abs_0f7a4 : MethodName := ⟨RJ9, "abs", "(I)I"⟩
abbrev cJ9_max_7cf53 : ByteArray := prog_15_method_65_code
def yJ9_max_7cf53 : MethodName := ⟨RJ9, "max", "(II)I"⟩
abbrev cJ9_min_7cf53 : ByteArray := prog_15_method_69_code
def yJ9_min_7cf53 : MethodName := ⟨RJ9, "min", "(II)I"⟩
def RJ0 : String := "java/lang/String"
abbrev cJ0_length_8abf5 : ByteArray := prog_16_method_54_code
def yJ0_length_8abf5 : MethodName := ⟨RJ0, "length", "()I"⟩
abbrev cJ0_charAt_5068e : ByteArray := prog_16_method_56_code
def yJ0_charAt_5068e : MethodName := ⟨RJ0, "charAt", "(I)C"⟩
abbrev cJ0_coder_7d493 : ByteArray := prog_16_method_152_code
def yJ0_coder_7d493 : MethodName := ⟨RJ0, "coder", "()B"⟩
abbrev cJ0_isLatin1_aae02 : ByteArray := prog_16_method_154_code
def yJ0_isLatin1_aae02 : MethodName := ⟨RJ0, "isLatin1", "()Z"⟩
abbrev cJ0_checkIndex_df160 : ByteArray := prog_16_method_155_code
def yJ0_checkIndex_df160 : MethodName := ⟨RJ0, "checkIndex", "(II)V"⟩
def RJ1 : String := "java/lang/StringLatin1"
abbrev cJ1_charAt_3b067 : ByteArray := prog_17_method_2_code
def yJ1_charAt_3b067 : MethodName := ⟨RJ1, "charAt", "([BI)C"⟩
def RJ2 : String := "java/lang/StringUTF16"
abbrev cJ2_getChar_3b067 : ByteArray := prog_18_method_5_code
def yJ2_getChar_3b067 : MethodName := ⟨RJ2, "getChar", "([BI)C"⟩
abbrev cJ2_length_9d52b : ByteArray := prog_18_method_6_code
def yJ2_length_9d52b : MethodName := ⟨RJ2, "length", "([B)I"⟩
abbrev cJ2_charAt_3b067 : ByteArray := prog_18_method_83_code
def yJ2_charAt_3b067 : MethodName := ⟨RJ2, "charAt", "([BI)C"⟩
abbrev cJ2_checkIndex_2214a : ByteArray := prog_18_method_91_code
def yJ2_checkIndex_2214a : MethodName := ⟨RJ2, "checkIndex", "(I[B)V"⟩
def RJ10 : String := "java/lang/System"
def RJ3 : String := "jdk/internal/util/Preconditions"
abbrev cJ3_checkIndex_8e157 : ByteArray := prog_20_method_11_code
def yJ3_checkIndex_8e157 : MethodName := ⟨RJ3, "checkIndex", "(IILjava/util/function/BiFunction;)I"⟩
def RL : String := "WeighedGateLaw"
abbrev cL_law : ByteArray := code
def yL_law : MethodName := ⟨RL, "law", "([I)Z"⟩
def xT0 : List Cond := lw_tbl.filter goodWord
theorem xT0_good : GoodIn xT0 xT0 := fun w h => ⟨h, good_of_word (List.mem_filter.mp h).2⟩
theorem xT0_in {w : Cond} (h : w ∈ lw_tbl) (g : goodWord w = true) : w ∈ xT0 := List.mem_filter.mpr ⟨h, g⟩
theorem xTc1 {w : Cond} (i : Nat) (h0 : tables_1_1[i]? = some w) (g : goodWord w = true) : w ∈ xT0 := by
  have h : w ∈ tables_1_1 := List.mem_of_getElem? h0
  exact xT0_in (List.mem_append_right _ (show w ∈ tables_1_1 ++ (tables_1_2 ++ (tables_1_3 ++ (tables_1_4 ++ (tables_1_5 ++ (tables_1_6 ++ tables_1_7))))) from List.mem_append_left _ h)) g
theorem xTc2 {w : Cond} (i : Nat) (h0 : tables_1_2[i]? = some w) (g : goodWord w = true) : w ∈ xT0 := by
  have h : w ∈ tables_1_2 := List.mem_of_getElem? h0
  exact xT0_in (List.mem_append_right _ (show w ∈ tables_1_1 ++ (tables_1_2 ++ (tables_1_3 ++ (tables_1_4 ++ (tables_1_5 ++ (tables_1_6 ++ tables_1_7))))) from List.mem_append_right _ (List.mem_append_left _ h))) g
theorem xTc3 {w : Cond} (i : Nat) (h0 : tables_1_3[i]? = some w) (g : goodWord w = true) : w ∈ xT0 := by
  have h : w ∈ tables_1_3 := List.mem_of_getElem? h0
  exact xT0_in (List.mem_append_right _ (show w ∈ tables_1_1 ++ (tables_1_2 ++ (tables_1_3 ++ (tables_1_4 ++ (tables_1_5 ++ (tables_1_6 ++ tables_1_7))))) from List.mem_append_right _ (List.mem_append_right _ (List.mem_append_left _ h)))) g
theorem xTc4 {w : Cond} (i : Nat) (h0 : tables_1_4[i]? = some w) (g : goodWord w = true) : w ∈ xT0 := by
  have h : w ∈ tables_1_4 := List.mem_of_getElem? h0
  exact xT0_in (List.mem_append_right _ (show w ∈ tables_1_1 ++ (tables_1_2 ++ (tables_1_3 ++ (tables_1_4 ++ (tables_1_5 ++ (tables_1_6 ++ tables_1_7))))) from List.mem_append_right _ (List.mem_append_right _ (List.mem_append_right _ (List.mem_append_left _ h))))) g
theorem xTc5 {w : Cond} (i : Nat) (h0 : tables_1_5[i]? = some w) (g : goodWord w = true) : w ∈ xT0 := by
  have h : w ∈ tables_1_5 := List.mem_of_getElem? h0
  exact xT0_in (List.mem_append_right _ (show w ∈ tables_1_1 ++ (tables_1_2 ++ (tables_1_3 ++ (tables_1_4 ++ (tables_1_5 ++ (tables_1_6 ++ tables_1_7))))) from List.mem_append_right _ (List.mem_append_right _ (List.mem_append_right _ (List.mem_append_right _ (List.mem_append_left _ h)))))) g
theorem xTc6 {w : Cond} (i : Nat) (h0 : tables_1_6[i]? = some w) (g : goodWord w = true) : w ∈ xT0 := by
  have h : w ∈ tables_1_6 := List.mem_of_getElem? h0
  exact xT0_in (List.mem_append_right _ (show w ∈ tables_1_1 ++ (tables_1_2 ++ (tables_1_3 ++ (tables_1_4 ++ (tables_1_5 ++ (tables_1_6 ++ tables_1_7))))) from List.mem_append_right _ (List.mem_append_right _ (List.mem_append_right _ (List.mem_append_right _ (List.mem_append_right _ (List.mem_append_left _ h))))))) g
theorem xTc7 {w : Cond} (i : Nat) (h0 : tables_1_7[i]? = some w) (g : goodWord w = true) : w ∈ xT0 := by
  have h : w ∈ tables_1_7 := List.mem_of_getElem? h0
  exact xT0_in (List.mem_append_right _ (show w ∈ tables_1_1 ++ (tables_1_2 ++ (tables_1_3 ++ (tables_1_4 ++ (tables_1_5 ++ (tables_1_6 ++ tables_1_7))))) from List.mem_append_right _ (List.mem_append_right _ (List.mem_append_right _ (List.mem_append_right _ (List.mem_append_right _ (List.mem_append_right _ (h)))))))) g
theorem xT0_sel {w : Cond} (i : Nat) (h : (k2_sels lw_privs)[i]? = some w) (g : goodWord w = true) : w ∈ xT0 := xT0_in (List.mem_append_left _ (List.mem_of_getElem? h)) g
theorem q0 : (Jvm.Cond.initialized "WeighedGateLaw") ∈ xT0 := xTc1 0 rfl rfl
theorem q1 : (Jvm.Cond.initialized "WeighedGate") ∈ xT0 := xTc1 1 rfl rfl
theorem q2 : (Jvm.Cond.initialized "WeighedGate$Scale") ∈ xT0 := xTc1 2 rfl rfl
theorem q3 : (Jvm.Cond.initialized "java/lang/Math") ∈ xT0 := xTc1 3 rfl rfl
theorem q4 : (Jvm.Cond.initialized "WeighedGate$Yard") ∈ xT0 := xTc1 4 rfl rfl
theorem q5 : (Jvm.Cond.initialized "WeighedGate$Cart") ∈ xT0 := xTc1 5 rfl rfl
theorem q6 : (Jvm.Cond.initialized "WeighedGate$Reader") ∈ xT0 := xTc1 6 rfl rfl
theorem q7 : (Jvm.Cond.initialized "WeighedGate$Weighing") ∈ xT0 := xTc1 7 rfl rfl
theorem q8 : (Jvm.Cond.initialized "WeighedGate$Pairs") ∈ xT0 := xTc1 8 rfl rfl
theorem q9 : (Jvm.Cond.initialized "WeighedGate$Day") ∈ xT0 := xTc1 9 rfl rfl
theorem q10 : (Jvm.Cond.initialized "WeighedGate$Image") ∈ xT0 := xTc1 10 rfl rfl
theorem q11 : (Jvm.Cond.initialized "WeighedGate$Text") ∈ xT0 := xTc1 11 rfl rfl
theorem q12 : (Jvm.Cond.initialized "WeighedGate$Sheet") ∈ xT0 := xTc1 12 rfl rfl
theorem q13 : (Jvm.Cond.initialized "java/lang/String") ∈ xT0 := xTc1 13 rfl rfl
theorem q14 : (Jvm.Cond.initialized "java/lang/StringLatin1") ∈ xT0 := xTc1 14 rfl rfl
theorem q15 : (Jvm.Cond.initialized "jdk/internal/util/Preconditions") ∈ xT0 := xTc1 15 rfl rfl
theorem q16 : (Jvm.Cond.initialized "java/lang/StringUTF16") ∈ xT0 := xTc1 16 rfl rfl
theorem q17 : (Jvm.Cond.initialized "WeighedGateModel") ∈ xT0 := xTc1 17 rfl rfl
theorem q18 : (Jvm.Cond.initialized "java/lang/Integer") ∈ xT0 := xTc1 18 rfl rfl
theorem q19 : (Jvm.Cond.initialized "java/lang/System") ∈ xT0 := xTc1 19 rfl rfl
theorem q20 : (Jvm.Cond.classLink "WeighedGateLaw" (7 : Nat) "WeighedGate") ∈ xT0 := xTc1 20 rfl rfl
theorem q21 : (Jvm.Cond.instantiable "WeighedGate" (12 : Nat)) ∈ xT0 := xTc1 21 rfl rfl
theorem q22 : (Jvm.Cond.methodLink "WeighedGateLaw" (9 : Nat) ({ cls := "WeighedGate", name := "<init>", desc := "()V" } : Jvm.MethodName)) ∈ xT0 := xTc1 22 rfl rfl
theorem q23 : (Jvm.Cond.instanceMethod ({ cls := "WeighedGate", name := "<init>", desc := "()V" } : Jvm.MethodName)) ∈ xT0 := xTc1 23 rfl rfl
theorem q24 : (Jvm.Cond.code ({ cls := "WeighedGate", name := "<init>", desc := "()V" } : Jvm.MethodName) prog_1_method_1_code (2 : Nat) (Option.none : Option Jvm.ClassFile.FieldType)) ∈ xT0 := xTc1 24 rfl rfl
theorem q25 : (Jvm.Cond.methodLink "WeighedGate" (3 : Nat) ({ cls := "java/lang/Object", name := "<init>", desc := "()V" } : Jvm.MethodName)) ∈ xT0 := xTc1 25 rfl rfl
theorem q26 : (Jvm.Cond.instanceMethod ({ cls := "java/lang/Object", name := "<init>", desc := "()V" } : Jvm.MethodName)) ∈ xT0 := xTc1 26 rfl rfl
theorem q27 : (Jvm.Cond.code ({ cls := "java/lang/Object", name := "<init>", desc := "()V" } : Jvm.MethodName) object_method_1_code (1 : Nat) (Option.none : Option Jvm.ClassFile.FieldType)) ∈ xT0 := xTc1 27 rfl rfl
theorem q28 : (Jvm.Cond.classLink "WeighedGate" (9 : Nat) "WeighedGate$Scale") ∈ xT0 := xTc1 28 rfl rfl
theorem q29 : (Jvm.Cond.instantiable "WeighedGate$Scale" (4 : Nat)) ∈ xT0 := xTc1 29 rfl rfl
theorem q30 : (Jvm.Cond.methodLink "WeighedGate" (11 : Nat) ({ cls := "WeighedGate$Scale", name := "<init>", desc := "()V" } : Jvm.MethodName)) ∈ xT0 := xTc1 30 rfl rfl
theorem q31 : (Jvm.Cond.instanceMethod ({ cls := "WeighedGate$Scale", name := "<init>", desc := "()V" } : Jvm.MethodName)) ∈ xT0 := xTc1 31 rfl rfl
theorem q32 : (Jvm.Cond.code ({ cls := "WeighedGate$Scale", name := "<init>", desc := "()V" } : Jvm.MethodName) prog_7_method_1_code (1 : Nat) (Option.none : Option Jvm.ClassFile.FieldType)) ∈ xT0 := xTc1 32 rfl rfl
theorem q33 : (Jvm.Cond.methodLink "WeighedGate$Scale" (3 : Nat) ({ cls := "java/lang/Object", name := "<init>", desc := "()V" } : Jvm.MethodName)) ∈ xT0 := xTc1 33 rfl rfl
theorem q34 : (Jvm.Cond.methodLink "WeighedGate$Scale" (21 : Nat) ({ cls := "WeighedGate$Scale", name := "layAll", desc := "()V" } : Jvm.MethodName)) ∈ xT0 := xTc1 34 rfl rfl
theorem q35 : (Jvm.Cond.instanceMethod ({ cls := "WeighedGate$Scale", name := "layAll", desc := "()V" } : Jvm.MethodName)) ∈ xT0 := xTc1 35 rfl rfl
theorem q36 : (Jvm.Cond.selects "WeighedGate$Scale" ({ cls := "WeighedGate$Scale", name := "layAll", desc := "()V" } : Jvm.MethodName) ({ cls := "WeighedGate$Scale", name := "layAll", desc := "()V" } : Jvm.MethodName)) ∈ xT0 := xTc1 36 rfl rfl
theorem q37 : (Jvm.Cond.code ({ cls := "WeighedGate$Scale", name := "layAll", desc := "()V" } : Jvm.MethodName) prog_7_method_2_code (2 : Nat) (Option.none : Option Jvm.ClassFile.FieldType)) ∈ xT0 := xTc1 37 rfl rfl
theorem q38 : (Jvm.Cond.methodLink "WeighedGate$Scale" (24 : Nat) ({ cls := "WeighedGate$Scale", name := "lay", desc := "(III)V" } : Jvm.MethodName)) ∈ xT0 := xTc1 38 rfl rfl
theorem q40 : (Jvm.Cond.instanceMethod ({ cls := "WeighedGate$Scale", name := "lay", desc := "(III)V" } : Jvm.MethodName)) ∈ xT0 := xTc1 40 rfl rfl
theorem q41 : (Jvm.Cond.code ({ cls := "WeighedGate$Scale", name := "lay", desc := "(III)V" } : Jvm.MethodName) prog_7_method_3_code (5 : Nat) (Option.none : Option Jvm.ClassFile.FieldType)) ∈ xT0 := xTc1 41 rfl rfl
theorem q42 : (Jvm.Cond.methodLink "WeighedGate$Scale" (32 : Nat) ({ cls := "java/lang/Math", name := "abs", desc := "(I)I" } : Jvm.MethodName)) ∈ xT0 := xTc1 42 rfl rfl
theorem q43 : (Jvm.Cond.static ({ cls := "java/lang/Math", name := "abs", desc := "(I)I" } : Jvm.MethodName)) ∈ xT0 := xTc1 43 rfl rfl
theorem q44 : (Jvm.Cond.code ({ cls := "java/lang/Math", name := "abs", desc := "(I)I" } : Jvm.MethodName) prog_15_method_59_code (1 : Nat) (Option.some Jvm.ClassFile.FieldType.int)) ∈ xT0 := xTc1 44 rfl rfl
theorem q45 : (Jvm.Cond.fieldLink "WeighedGate$Scale" (9 : Nat) "WeighedGate$Scale" "settings" "[I") ∈ xT0 := xTc1 45 rfl rfl
theorem q46 : (Jvm.Cond.fieldLink "WeighedGate$Image" (32 : Nat) "WeighedGate$Scale" "settings" "[I") ∈ xT0 := xTc1 46 rfl rfl
theorem q47 : (Jvm.Cond.fieldLink "WeighedGate" (108 : Nat) "WeighedGate$Scale" "settings" "[I") ∈ xT0 := xTc1 47 rfl rfl
theorem q48 : (Jvm.Cond.fieldLink "WeighedGate$Weighing" (76 : Nat) "WeighedGate$Scale" "settings" "[I") ∈ xT0 := xTc1 48 rfl rfl
theorem q49 : (Jvm.Cond.fieldLink "WeighedGate$Scale" (15 : Nat) "WeighedGate$Scale" "stones" "[I") ∈ xT0 := xTc1 49 rfl rfl
theorem q50 : (Jvm.Cond.fieldLink "WeighedGate$Image" (41 : Nat) "WeighedGate$Scale" "stones" "[I") ∈ xT0 := xTc1 50 rfl rfl
theorem q51 : (Jvm.Cond.fieldLink "WeighedGate" (114 : Nat) "WeighedGate$Scale" "stones" "[I") ∈ xT0 := xTc1 51 rfl rfl
theorem q52 : (Jvm.Cond.fieldLink "WeighedGate$Image" (42 : Nat) "WeighedGate$Scale" "stoneCount" "I") ∈ xT0 := xTc1 52 rfl rfl
theorem q53 : (Jvm.Cond.fieldLink "WeighedGate$Scale" (28 : Nat) "WeighedGate$Scale" "stoneCount" "I") ∈ xT0 := xTc1 53 rfl rfl
theorem q54 : (Jvm.Cond.fieldLink "WeighedGate" (111 : Nat) "WeighedGate$Scale" "stoneCount" "I") ∈ xT0 := xTc1 54 rfl rfl
theorem q55 : (Jvm.Cond.fieldLink "WeighedGate$Scale" (18 : Nat) "WeighedGate$Scale" "fewest" "[I") ∈ xT0 := xTc1 55 rfl rfl
theorem q56 : (Jvm.Cond.laysFinal "WeighedGate$Scale" "WeighedGate$Scale" "settings" "[I") ∈ xT0 := xTc1 56 rfl rfl
theorem q58 : (Jvm.Cond.laysFinal "WeighedGate$Scale" "WeighedGate$Scale" "stones" "[I") ∈ xT0 := xTc1 58 rfl rfl
theorem q60 : (Jvm.Cond.lays "WeighedGate$Scale" "WeighedGate$Scale" "stoneCount" "I") ∈ xT0 := xTc1 60 rfl rfl
theorem q62 : (Jvm.Cond.laysFinal "WeighedGate$Scale" "WeighedGate$Scale" "fewest" "[I") ∈ xT0 := xTc1 62 rfl rfl
theorem q65 : (Jvm.Cond.arrayClass Jvm.ClassFile.FieldType.int) ∈ xT0 := xTc1 65 rfl rfl
theorem q66 : (Jvm.Cond.classLink "WeighedGate" (16 : Nat) "WeighedGate$Yard") ∈ xT0 := xTc1 66 rfl rfl
theorem q67 : (Jvm.Cond.instantiable "WeighedGate$Yard" (3 : Nat)) ∈ xT0 := xTc1 67 rfl rfl
theorem q68 : (Jvm.Cond.methodLink "WeighedGate" (18 : Nat) ({ cls := "WeighedGate$Yard", name := "<init>", desc := "()V" } : Jvm.MethodName)) ∈ xT0 := xTc1 68 rfl rfl
theorem q69 : (Jvm.Cond.instanceMethod ({ cls := "WeighedGate$Yard", name := "<init>", desc := "()V" } : Jvm.MethodName)) ∈ xT0 := xTc1 69 rfl rfl
theorem q70 : (Jvm.Cond.code ({ cls := "WeighedGate$Yard", name := "<init>", desc := "()V" } : Jvm.MethodName) prog_11_method_1_code (2 : Nat) (Option.none : Option Jvm.ClassFile.FieldType)) ∈ xT0 := xTc1 70 rfl rfl
theorem q71 : (Jvm.Cond.methodLink "WeighedGate$Yard" (3 : Nat) ({ cls := "java/lang/Object", name := "<init>", desc := "()V" } : Jvm.MethodName)) ∈ xT0 := xTc1 71 rfl rfl
theorem q72 : (Jvm.Cond.classLink "WeighedGate$Yard" (9 : Nat) "WeighedGate$Cart") ∈ xT0 := xTc1 72 rfl rfl
theorem q74 : (Jvm.Cond.instantiable "WeighedGate$Cart" (5 : Nat)) ∈ xT0 := xTc1 74 rfl rfl
theorem q76 : (Jvm.Cond.instanceMethod ({ cls := "WeighedGate$Cart", name := "<init>", desc := "()V" } : Jvm.MethodName)) ∈ xT0 := xTc1 76 rfl rfl
theorem q77 : (Jvm.Cond.code ({ cls := "WeighedGate$Cart", name := "<init>", desc := "()V" } : Jvm.MethodName) prog_2_method_1_code (1 : Nat) (Option.none : Option Jvm.ClassFile.FieldType)) ∈ xT0 := xTc1 77 rfl rfl
theorem q78 : (Jvm.Cond.methodLink "WeighedGate$Cart" (3 : Nat) ({ cls := "java/lang/Object", name := "<init>", desc := "()V" } : Jvm.MethodName)) ∈ xT0 := xTc1 78 rfl rfl
theorem q79 : (Jvm.Cond.fieldLink "WeighedGate$Image" (53 : Nat) "WeighedGate$Cart" "inward" "I") ∈ xT0 := xTc1 79 rfl rfl
theorem q80 : (Jvm.Cond.fieldLink "WeighedGate$Weighing" (58 : Nat) "WeighedGate$Cart" "inward" "I") ∈ xT0 := xTc1 80 rfl rfl
theorem q81 : (Jvm.Cond.fieldLink "WeighedGate" (144 : Nat) "WeighedGate$Cart" "inward" "I") ∈ xT0 := xTc1 81 rfl rfl
theorem q82 : (Jvm.Cond.fieldLink "WeighedGate$Cart" (9 : Nat) "WeighedGate$Cart" "kind" "I") ∈ xT0 := xTc1 82 rfl rfl
theorem q83 : (Jvm.Cond.fieldLink "WeighedGate" (149 : Nat) "WeighedGate$Cart" "kind" "I") ∈ xT0 := xTc1 83 rfl rfl
theorem q84 : (Jvm.Cond.fieldLink "WeighedGate$Cart" (15 : Nat) "WeighedGate$Cart" "weight" "I") ∈ xT0 := xTc1 84 rfl rfl
theorem q85 : (Jvm.Cond.fieldLink "WeighedGate" (152 : Nat) "WeighedGate$Cart" "weight" "I") ∈ xT0 := xTc1 85 rfl rfl
theorem q86 : (Jvm.Cond.fieldLink "WeighedGate$Cart" (31 : Nat) "WeighedGate$Cart" "value" "I") ∈ xT0 := xTc1 86 rfl rfl
theorem q87 : (Jvm.Cond.fieldLink "WeighedGate" (155 : Nat) "WeighedGate$Cart" "value" "I") ∈ xT0 := xTc1 87 rfl rfl
theorem q88 : (Jvm.Cond.fieldLink "WeighedGate$Cart" (18 : Nat) "WeighedGate$Cart" "more" "I") ∈ xT0 := xTc1 88 rfl rfl
theorem q89 : (Jvm.Cond.fieldLink "WeighedGate" (158 : Nat) "WeighedGate$Cart" "more" "I") ∈ xT0 := xTc1 89 rfl rfl
theorem q90 : (Jvm.Cond.lays "WeighedGate$Cart" "WeighedGate$Cart" "inward" "I") ∈ xT0 := xTc1 90 rfl rfl
theorem q92 : (Jvm.Cond.lays "WeighedGate$Cart" "WeighedGate$Cart" "kind" "I") ∈ xT0 := xTc1 92 rfl rfl
theorem q94 : (Jvm.Cond.lays "WeighedGate$Cart" "WeighedGate$Cart" "weight" "I") ∈ xT0 := xTc1 94 rfl rfl
theorem q96 : (Jvm.Cond.lays "WeighedGate$Cart" "WeighedGate$Cart" "value" "I") ∈ xT0 := xTc1 96 rfl rfl
theorem q98 : (Jvm.Cond.lays "WeighedGate$Cart" "WeighedGate$Cart" "more" "I") ∈ xT0 := xTc1 98 rfl rfl
theorem q101 : (Jvm.Cond.fieldLink "WeighedGate$Yard" (11 : Nat) "WeighedGate$Yard" "carts" "[LWeighedGate$Cart;") ∈ xT0 := xTc1 101 rfl rfl
theorem q102 : (Jvm.Cond.fieldLink "WeighedGate$Weighing" (41 : Nat) "WeighedGate$Yard" "carts" "[LWeighedGate$Cart;") ∈ xT0 := xTc1 102 rfl rfl
theorem q103 : (Jvm.Cond.fieldLink "WeighedGate$Image" (49 : Nat) "WeighedGate$Yard" "carts" "[LWeighedGate$Cart;") ∈ xT0 := xTc1 103 rfl rfl
theorem q104 : (Jvm.Cond.fieldLink "WeighedGate" (140 : Nat) "WeighedGate$Yard" "carts" "[LWeighedGate$Cart;") ∈ xT0 := xTc1 104 rfl rfl
theorem q105 : (Jvm.Cond.fieldLink "WeighedGate$Yard" (17 : Nat) "WeighedGate$Yard" "comes" "[I") ∈ xT0 := xTc1 105 rfl rfl
theorem q106 : (Jvm.Cond.fieldLink "WeighedGate$Day" (29 : Nat) "WeighedGate$Yard" "comes" "[I") ∈ xT0 := xTc1 106 rfl rfl
theorem q107 : (Jvm.Cond.fieldLink "WeighedGate$Pairs" (26 : Nat) "WeighedGate$Yard" "comes" "[I") ∈ xT0 := xTc1 107 rfl rfl
theorem q108 : (Jvm.Cond.fieldLink "WeighedGate$Image" (46 : Nat) "WeighedGate$Yard" "comes" "[I") ∈ xT0 := xTc1 108 rfl rfl
theorem q109 : (Jvm.Cond.fieldLink "WeighedGate" (161 : Nat) "WeighedGate$Yard" "comes" "[I") ∈ xT0 := xTc1 109 rfl rfl
theorem q110 : (Jvm.Cond.fieldLink "WeighedGate$Yard" (22 : Nat) "WeighedGate$Yard" "size" "I") ∈ xT0 := xTc1 110 rfl rfl
theorem q111 : (Jvm.Cond.fieldLink "WeighedGate$Pairs" (37 : Nat) "WeighedGate$Yard" "size" "I") ∈ xT0 := xTc1 111 rfl rfl
theorem q112 : (Jvm.Cond.fieldLink "WeighedGate$Weighing" (36 : Nat) "WeighedGate$Yard" "size" "I") ∈ xT0 := xTc1 112 rfl rfl
theorem q113 : (Jvm.Cond.fieldLink "WeighedGate$Image" (57 : Nat) "WeighedGate$Yard" "size" "I") ∈ xT0 := xTc1 113 rfl rfl
theorem q114 : (Jvm.Cond.fieldLink "WeighedGate$Day" (38 : Nat) "WeighedGate$Yard" "size" "I") ∈ xT0 := xTc1 114 rfl rfl
theorem q115 : (Jvm.Cond.fieldLink "WeighedGate" (120 : Nat) "WeighedGate$Yard" "size" "I") ∈ xT0 := xTc1 115 rfl rfl
theorem q116 : (Jvm.Cond.laysFinal "WeighedGate$Yard" "WeighedGate$Yard" "carts" "[LWeighedGate$Cart;") ∈ xT0 := xTc1 116 rfl rfl
theorem q118 : (Jvm.Cond.laysFinal "WeighedGate$Yard" "WeighedGate$Yard" "comes" "[I") ∈ xT0 := xTc1 118 rfl rfl
theorem q120 : (Jvm.Cond.lays "WeighedGate$Yard" "WeighedGate$Yard" "size" "I") ∈ xT0 := xTc1 120 rfl rfl
theorem q123 : (Jvm.Cond.classLink "WeighedGate" (23 : Nat) "WeighedGate$Text") ∈ xT0 := xTc1 123 rfl rfl
theorem q125 : (Jvm.Cond.classLink "WeighedGate" (29 : Nat) "WeighedGate$Reader") ∈ xT0 := xTc1 125 rfl rfl
theorem q126 : (Jvm.Cond.instantiable "WeighedGate$Reader" (8 : Nat)) ∈ xT0 := xTc1 126 rfl rfl
theorem q128 : (Jvm.Cond.instanceMethod ({ cls := "WeighedGate$Reader", name := "<init>", desc := "()V" } : Jvm.MethodName)) ∈ xT0 := xTc1 128 rfl rfl
theorem q129 : (Jvm.Cond.code ({ cls := "WeighedGate$Reader", name := "<init>", desc := "()V" } : Jvm.MethodName) prog_6_method_1_code (1 : Nat) (Option.none : Option Jvm.ClassFile.FieldType)) ∈ xT0 := xTc1 129 rfl rfl
theorem q130 : (Jvm.Cond.methodLink "WeighedGate$Reader" (3 : Nat) ({ cls := "java/lang/Object", name := "<init>", desc := "()V" } : Jvm.MethodName)) ∈ xT0 := xTc1 130 rfl rfl
theorem q131 : (Jvm.Cond.fieldLink "WeighedGate$Reader" (9 : Nat) "WeighedGate$Reader" "tape" "[I") ∈ xT0 := xTc1 131 rfl rfl
theorem q132 : (Jvm.Cond.fieldLink "WeighedGate$Reader" (15 : Nat) "WeighedGate$Reader" "size" "I") ∈ xT0 := xTc1 132 rfl rfl
theorem q133 : (Jvm.Cond.fieldLink "WeighedGate" (126 : Nat) "WeighedGate$Reader" "size" "I") ∈ xT0 := xTc1 133 rfl rfl
theorem q134 : (Jvm.Cond.fieldLink "WeighedGate$Reader" (28 : Nat) "WeighedGate$Reader" "next" "I") ∈ xT0 := xTc1 134 rfl rfl
theorem q135 : (Jvm.Cond.fieldLink "WeighedGate$Reader" (57 : Nat) "WeighedGate$Reader" "place" "I") ∈ xT0 := xTc1 135 rfl rfl
theorem q136 : (Jvm.Cond.fieldLink "WeighedGate$Reader" (51 : Nat) "WeighedGate$Reader" "token" "I") ∈ xT0 := xTc1 136 rfl rfl
theorem q137 : (Jvm.Cond.fieldLink "WeighedGate$Reader" (31 : Nat) "WeighedGate$Reader" "open" "I") ∈ xT0 := xTc1 137 rfl rfl
theorem q138 : (Jvm.Cond.fieldLink "WeighedGate$Reader" (34 : Nat) "WeighedGate$Reader" "fault" "I") ∈ xT0 := xTc1 138 rfl rfl
theorem q139 : (Jvm.Cond.fieldLink "WeighedGate$Reader" (19 : Nat) "WeighedGate$Reader" "into" "LWeighedGate$Text;") ∈ xT0 := xTc1 139 rfl rfl
theorem q140 : (Jvm.Cond.laysFinal "WeighedGate$Reader" "WeighedGate$Reader" "tape" "[I") ∈ xT0 := xTc1 140 rfl rfl
theorem q142 : (Jvm.Cond.lays "WeighedGate$Reader" "WeighedGate$Reader" "size" "I") ∈ xT0 := xTc1 142 rfl rfl
theorem q144 : (Jvm.Cond.lays "WeighedGate$Reader" "WeighedGate$Reader" "next" "I") ∈ xT0 := xTc1 144 rfl rfl
theorem q146 : (Jvm.Cond.lays "WeighedGate$Reader" "WeighedGate$Reader" "place" "I") ∈ xT0 := xTc1 146 rfl rfl
theorem q148 : (Jvm.Cond.lays "WeighedGate$Reader" "WeighedGate$Reader" "token" "I") ∈ xT0 := xTc1 148 rfl rfl
theorem q150 : (Jvm.Cond.lays "WeighedGate$Reader" "WeighedGate$Reader" "open" "I") ∈ xT0 := xTc1 150 rfl rfl
theorem q152 : (Jvm.Cond.lays "WeighedGate$Reader" "WeighedGate$Reader" "fault" "I") ∈ xT0 := xTc1 152 rfl rfl
theorem q154 : (Jvm.Cond.lays "WeighedGate$Reader" "WeighedGate$Reader" "into" "LWeighedGate$Text;") ∈ xT0 := xTc1 154 rfl rfl
theorem q157 : (Jvm.Cond.classLink "WeighedGate" (36 : Nat) "WeighedGate$Weighing") ∈ xT0 := xTc1 157 rfl rfl
theorem q158 : (Jvm.Cond.instantiable "WeighedGate$Weighing" (15 : Nat)) ∈ xT0 := xTc1 158 rfl rfl
theorem q159 : (Jvm.Cond.methodLink "WeighedGate" (38 : Nat) ({ cls := "WeighedGate$Weighing", name := "<init>", desc := "(LWeighedGate$Scale;LWeighedGate$Yard;)V" } : Jvm.MethodName)) ∈ xT0 := xTc1 159 rfl rfl
theorem q160 : (Jvm.Cond.instanceMethod ({ cls := "WeighedGate$Weighing", name := "<init>", desc := "(LWeighedGate$Scale;LWeighedGate$Yard;)V" } : Jvm.MethodName)) ∈ xT0 := xTc1 160 rfl rfl
theorem q161 : (Jvm.Cond.code ({ cls := "WeighedGate$Weighing", name := "<init>", desc := "(LWeighedGate$Scale;LWeighedGate$Yard;)V" } : Jvm.MethodName) prog_10_method_1_code (3 : Nat) (Option.none : Option Jvm.ClassFile.FieldType)) ∈ xT0 := xTc1 161 rfl rfl
theorem q162 : (Jvm.Cond.methodLink "WeighedGate$Weighing" (3 : Nat) ({ cls := "java/lang/Object", name := "<init>", desc := "()V" } : Jvm.MethodName)) ∈ xT0 := xTc1 162 rfl rfl
theorem q163 : (Jvm.Cond.fieldLink "WeighedGate$Weighing" (21 : Nat) "WeighedGate$Weighing" "beam" "LWeighedGate$Scale;") ∈ xT0 := xTc1 163 rfl rfl
theorem q164 : (Jvm.Cond.fieldLink "WeighedGate$Weighing" (25 : Nat) "WeighedGate$Weighing" "yard" "LWeighedGate$Yard;") ∈ xT0 := xTc1 164 rfl rfl
theorem q165 : (Jvm.Cond.fieldLink "WeighedGate$Weighing" (9 : Nat) "WeighedGate$Weighing" "weights" "[I") ∈ xT0 := xTc1 165 rfl rfl
theorem q166 : (Jvm.Cond.fieldLink "WeighedGate$Weighing" (15 : Nat) "WeighedGate$Weighing" "worths" "[I") ∈ xT0 := xTc1 166 rfl rfl
theorem q167 : (Jvm.Cond.fieldLink "WeighedGate$Weighing" (18 : Nat) "WeighedGate$Weighing" "names" "[I") ∈ xT0 := xTc1 167 rfl rfl
theorem q168 : (Jvm.Cond.fieldLink "WeighedGate$Weighing" (29 : Nat) "WeighedGate$Weighing" "come" "I") ∈ xT0 := xTc1 168 rfl rfl
theorem q169 : (Jvm.Cond.fieldLink "WeighedGate$Weighing" (33 : Nat) "WeighedGate$Weighing" "inward" "I") ∈ xT0 := xTc1 169 rfl rfl
theorem q170 : (Jvm.Cond.fieldLink "WeighedGate$Weighing" (59 : Nat) "WeighedGate$Weighing" "set" "I") ∈ xT0 := xTc1 170 rfl rfl
theorem q171 : (Jvm.Cond.fieldLink "WeighedGate$Weighing" (65 : Nat) "WeighedGate$Weighing" "worth" "I") ∈ xT0 := xTc1 171 rfl rfl
theorem q172 : (Jvm.Cond.fieldLink "WeighedGate$Day" (86 : Nat) "WeighedGate$Weighing" "in" "I") ∈ xT0 := xTc1 172 rfl rfl
theorem q173 : (Jvm.Cond.fieldLink "WeighedGate$Weighing" (70 : Nat) "WeighedGate$Weighing" "in" "I") ∈ xT0 := xTc1 173 rfl rfl
theorem q174 : (Jvm.Cond.fieldLink "WeighedGate" (214 : Nat) "WeighedGate$Weighing" "in" "I") ∈ xT0 := xTc1 174 rfl rfl
theorem q175 : (Jvm.Cond.fieldLink "WeighedGate$Day" (89 : Nat) "WeighedGate$Weighing" "out" "I") ∈ xT0 := xTc1 175 rfl rfl
theorem q176 : (Jvm.Cond.fieldLink "WeighedGate$Weighing" (73 : Nat) "WeighedGate$Weighing" "out" "I") ∈ xT0 := xTc1 176 rfl rfl
theorem q177 : (Jvm.Cond.fieldLink "WeighedGate" (217 : Nat) "WeighedGate$Weighing" "out" "I") ∈ xT0 := xTc1 177 rfl rfl
theorem q178 : (Jvm.Cond.fieldLink "WeighedGate$Weighing" (89 : Nat) "WeighedGate$Weighing" "off" "I") ∈ xT0 := xTc1 178 rfl rfl
theorem q179 : (Jvm.Cond.fieldLink "WeighedGate" (220 : Nat) "WeighedGate$Weighing" "off" "I") ∈ xT0 := xTc1 179 rfl rfl
theorem q180 : (Jvm.Cond.fieldLink "WeighedGate$Weighing" (95 : Nat) "WeighedGate$Weighing" "stones" "I") ∈ xT0 := xTc1 180 rfl rfl
theorem q181 : (Jvm.Cond.fieldLink "WeighedGate" (223 : Nat) "WeighedGate$Weighing" "stones" "I") ∈ xT0 := xTc1 181 rfl rfl
theorem q182 : (Jvm.Cond.fieldLink "WeighedGate$Day" (77 : Nat) "WeighedGate$Weighing" "bestSet" "I") ∈ xT0 := xTc1 182 rfl rfl
theorem q183 : (Jvm.Cond.fieldLink "WeighedGate$Weighing" (117 : Nat) "WeighedGate$Weighing" "bestSet" "I") ∈ xT0 := xTc1 183 rfl rfl
theorem q184 : (Jvm.Cond.fieldLink "WeighedGate" (246 : Nat) "WeighedGate$Weighing" "bestSet" "I") ∈ xT0 := xTc1 184 rfl rfl
theorem q185 : (Jvm.Cond.fieldLink "WeighedGate$Day" (83 : Nat) "WeighedGate$Weighing" "bestBrings" "I") ∈ xT0 := xTc1 185 rfl rfl
theorem q186 : (Jvm.Cond.fieldLink "WeighedGate$Weighing" (120 : Nat) "WeighedGate$Weighing" "bestBrings" "I") ∈ xT0 := xTc1 186 rfl rfl
theorem q187 : (Jvm.Cond.fieldLink "WeighedGate" (249 : Nat) "WeighedGate$Weighing" "bestBrings" "I") ∈ xT0 := xTc1 187 rfl rfl
theorem q188 : (Jvm.Cond.laysFinal "WeighedGate$Weighing" "WeighedGate$Weighing" "beam" "LWeighedGate$Scale;") ∈ xT0 := xTc1 188 rfl rfl
theorem q190 : (Jvm.Cond.laysFinal "WeighedGate$Weighing" "WeighedGate$Weighing" "yard" "LWeighedGate$Yard;") ∈ xT0 := xTc1 190 rfl rfl
theorem q192 : (Jvm.Cond.laysFinal "WeighedGate$Weighing" "WeighedGate$Weighing" "weights" "[I") ∈ xT0 := xTc1 192 rfl rfl
theorem q194 : (Jvm.Cond.laysFinal "WeighedGate$Weighing" "WeighedGate$Weighing" "worths" "[I") ∈ xT0 := xTc1 194 rfl rfl
theorem q196 : (Jvm.Cond.laysFinal "WeighedGate$Weighing" "WeighedGate$Weighing" "names" "[I") ∈ xT0 := xTc1 196 rfl rfl
theorem q198 : (Jvm.Cond.lays "WeighedGate$Weighing" "WeighedGate$Weighing" "come" "I") ∈ xT0 := xTc1 198 rfl rfl
theorem q200 : (Jvm.Cond.lays "WeighedGate$Weighing" "WeighedGate$Weighing" "inward" "I") ∈ xT0 := xTc1 200 rfl rfl
theorem q202 : (Jvm.Cond.lays "WeighedGate$Weighing" "WeighedGate$Weighing" "set" "I") ∈ xT0 := xTc1 202 rfl rfl
theorem q204 : (Jvm.Cond.lays "WeighedGate$Weighing" "WeighedGate$Weighing" "worth" "I") ∈ xT0 := xTc1 204 rfl rfl
theorem q206 : (Jvm.Cond.lays "WeighedGate$Weighing" "WeighedGate$Weighing" "in" "I") ∈ xT0 := xTc1 206 rfl rfl
theorem q208 : (Jvm.Cond.lays "WeighedGate$Weighing" "WeighedGate$Weighing" "out" "I") ∈ xT0 := xTc1 208 rfl rfl
theorem q210 : (Jvm.Cond.lays "WeighedGate$Weighing" "WeighedGate$Weighing" "off" "I") ∈ xT0 := xTc1 210 rfl rfl
theorem q212 : (Jvm.Cond.lays "WeighedGate$Weighing" "WeighedGate$Weighing" "stones" "I") ∈ xT0 := xTc1 212 rfl rfl
theorem q214 : (Jvm.Cond.lays "WeighedGate$Weighing" "WeighedGate$Weighing" "bestSet" "I") ∈ xT0 := xTc1 214 rfl rfl
theorem q216 : (Jvm.Cond.lays "WeighedGate$Weighing" "WeighedGate$Weighing" "bestBrings" "I") ∈ xT0 := xTc1 216 rfl rfl
theorem q219 : (Jvm.Cond.classLink "WeighedGate" (45 : Nat) "WeighedGate$Pairs") ∈ xT0 := xTc1 219 rfl rfl
theorem q220 : (Jvm.Cond.instantiable "WeighedGate$Pairs" (4 : Nat)) ∈ xT0 := xTc1 220 rfl rfl
theorem q221 : (Jvm.Cond.methodLink "WeighedGate" (47 : Nat) ({ cls := "WeighedGate$Pairs", name := "<init>", desc := "(LWeighedGate$Weighing;LWeighedGate$Yard;)V" } : Jvm.MethodName)) ∈ xT0 := xTc1 221 rfl rfl
theorem q222 : (Jvm.Cond.instanceMethod ({ cls := "WeighedGate$Pairs", name := "<init>", desc := "(LWeighedGate$Weighing;LWeighedGate$Yard;)V" } : Jvm.MethodName)) ∈ xT0 := xTc1 222 rfl rfl
theorem q223 : (Jvm.Cond.code ({ cls := "WeighedGate$Pairs", name := "<init>", desc := "(LWeighedGate$Weighing;LWeighedGate$Yard;)V" } : Jvm.MethodName) prog_5_method_1_code (3 : Nat) (Option.none : Option Jvm.ClassFile.FieldType)) ∈ xT0 := xTc1 223 rfl rfl
theorem q224 : (Jvm.Cond.methodLink "WeighedGate$Pairs" (3 : Nat) ({ cls := "java/lang/Object", name := "<init>", desc := "()V" } : Jvm.MethodName)) ∈ xT0 := xTc1 224 rfl rfl
theorem q225 : (Jvm.Cond.fieldLink "WeighedGate$Pairs" (18 : Nat) "WeighedGate$Pairs" "weighing" "LWeighedGate$Weighing;") ∈ xT0 := xTc1 225 rfl rfl
theorem q226 : (Jvm.Cond.fieldLink "WeighedGate$Pairs" (22 : Nat) "WeighedGate$Pairs" "yard" "LWeighedGate$Yard;") ∈ xT0 := xTc1 226 rfl rfl
theorem q227 : (Jvm.Cond.fieldLink "WeighedGate$Pairs" (9 : Nat) "WeighedGate$Pairs" "pays" "[I") ∈ xT0 := xTc1 227 rfl rfl
theorem q228 : (Jvm.Cond.fieldLink "WeighedGate$Pairs" (15 : Nat) "WeighedGate$Pairs" "others" "[I") ∈ xT0 := xTc1 228 rfl rfl
theorem q229 : (Jvm.Cond.fieldLink "WeighedGate" (240 : Nat) "WeighedGate$Pairs" "others" "[I") ∈ xT0 := xTc1 229 rfl rfl
theorem q230 : (Jvm.Cond.laysFinal "WeighedGate$Pairs" "WeighedGate$Pairs" "weighing" "LWeighedGate$Weighing;") ∈ xT0 := xTc1 230 rfl rfl
theorem q232 : (Jvm.Cond.laysFinal "WeighedGate$Pairs" "WeighedGate$Pairs" "yard" "LWeighedGate$Yard;") ∈ xT0 := xTc1 232 rfl rfl
theorem q234 : (Jvm.Cond.laysFinal "WeighedGate$Pairs" "WeighedGate$Pairs" "pays" "[I") ∈ xT0 := xTc1 234 rfl rfl
theorem q236 : (Jvm.Cond.laysFinal "WeighedGate$Pairs" "WeighedGate$Pairs" "others" "[I") ∈ xT0 := xTc1 236 rfl rfl
theorem q239 : (Jvm.Cond.classLink "WeighedGate" (54 : Nat) "WeighedGate$Day") ∈ xT0 := xTc1 239 rfl rfl
theorem q240 : (Jvm.Cond.instantiable "WeighedGate$Day" (10 : Nat)) ∈ xT0 := xTc2 0 rfl rfl
theorem q241 : (Jvm.Cond.methodLink "WeighedGate" (56 : Nat) ({ cls := "WeighedGate$Day", name := "<init>", desc := "(LWeighedGate$Weighing;LWeighedGate$Yard;)V" } : Jvm.MethodName)) ∈ xT0 := xTc2 1 rfl rfl
theorem q242 : (Jvm.Cond.instanceMethod ({ cls := "WeighedGate$Day", name := "<init>", desc := "(LWeighedGate$Weighing;LWeighedGate$Yard;)V" } : Jvm.MethodName)) ∈ xT0 := xTc2 2 rfl rfl
theorem q243 : (Jvm.Cond.code ({ cls := "WeighedGate$Day", name := "<init>", desc := "(LWeighedGate$Weighing;LWeighedGate$Yard;)V" } : Jvm.MethodName) prog_3_method_1_code (3 : Nat) (Option.none : Option Jvm.ClassFile.FieldType)) ∈ xT0 := xTc2 3 rfl rfl
theorem q244 : (Jvm.Cond.methodLink "WeighedGate$Day" (3 : Nat) ({ cls := "java/lang/Object", name := "<init>", desc := "()V" } : Jvm.MethodName)) ∈ xT0 := xTc2 4 rfl rfl
theorem q245 : (Jvm.Cond.fieldLink "WeighedGate$Day" (21 : Nat) "WeighedGate$Day" "weighing" "LWeighedGate$Weighing;") ∈ xT0 := xTc2 5 rfl rfl
theorem q246 : (Jvm.Cond.fieldLink "WeighedGate$Day" (25 : Nat) "WeighedGate$Day" "yard" "LWeighedGate$Yard;") ∈ xT0 := xTc2 6 rfl rfl
theorem q247 : (Jvm.Cond.fieldLink "WeighedGate$Day" (9 : Nat) "WeighedGate$Day" "comes" "[I") ∈ xT0 := xTc2 7 rfl rfl
theorem q248 : (Jvm.Cond.fieldLink "WeighedGate" (284 : Nat) "WeighedGate$Day" "comes" "[I") ∈ xT0 := xTc2 8 rfl rfl
theorem q249 : (Jvm.Cond.fieldLink "WeighedGate$Day" (15 : Nat) "WeighedGate$Day" "rowHours" "[I") ∈ xT0 := xTc2 9 rfl rfl
theorem q250 : (Jvm.Cond.fieldLink "WeighedGate" (310 : Nat) "WeighedGate$Day" "rowHours" "[I") ∈ xT0 := xTc2 10 rfl rfl
theorem q251 : (Jvm.Cond.fieldLink "WeighedGate$Day" (18 : Nat) "WeighedGate$Day" "rowSets" "[I") ∈ xT0 := xTc2 11 rfl rfl
theorem q252 : (Jvm.Cond.fieldLink "WeighedGate" (315 : Nat) "WeighedGate$Day" "rowSets" "[I") ∈ xT0 := xTc2 12 rfl rfl
theorem q253 : (Jvm.Cond.fieldLink "WeighedGate$Day" (48 : Nat) "WeighedGate$Day" "rows" "I") ∈ xT0 := xTc2 13 rfl rfl
theorem q254 : (Jvm.Cond.fieldLink "WeighedGate" (303 : Nat) "WeighedGate$Day" "rows" "I") ∈ xT0 := xTc2 14 rfl rfl
theorem q255 : (Jvm.Cond.fieldLink "WeighedGate$Day" (51 : Nat) "WeighedGate$Day" "earned" "I") ∈ xT0 := xTc2 15 rfl rfl
theorem q256 : (Jvm.Cond.fieldLink "WeighedGate" (259 : Nat) "WeighedGate$Day" "earned" "I") ∈ xT0 := xTc2 16 rfl rfl
theorem q257 : (Jvm.Cond.fieldLink "WeighedGate$Day" (54 : Nat) "WeighedGate$Day" "through" "I") ∈ xT0 := xTc2 17 rfl rfl
theorem q258 : (Jvm.Cond.fieldLink "WeighedGate" (262 : Nat) "WeighedGate$Day" "through" "I") ∈ xT0 := xTc2 18 rfl rfl
theorem q259 : (Jvm.Cond.fieldLink "WeighedGate$Day" (57 : Nat) "WeighedGate$Day" "moreIn" "I") ∈ xT0 := xTc2 19 rfl rfl
theorem q260 : (Jvm.Cond.fieldLink "WeighedGate" (265 : Nat) "WeighedGate$Day" "moreIn" "I") ∈ xT0 := xTc2 20 rfl rfl
theorem q261 : (Jvm.Cond.fieldLink "WeighedGate$Day" (60 : Nat) "WeighedGate$Day" "longestWaited" "I") ∈ xT0 := xTc2 21 rfl rfl
theorem q262 : (Jvm.Cond.fieldLink "WeighedGate" (268 : Nat) "WeighedGate$Day" "longestWaited" "I") ∈ xT0 := xTc2 22 rfl rfl
theorem q263 : (Jvm.Cond.laysFinal "WeighedGate$Day" "WeighedGate$Day" "weighing" "LWeighedGate$Weighing;") ∈ xT0 := xTc2 23 rfl rfl
theorem q265 : (Jvm.Cond.laysFinal "WeighedGate$Day" "WeighedGate$Day" "yard" "LWeighedGate$Yard;") ∈ xT0 := xTc2 25 rfl rfl
theorem q267 : (Jvm.Cond.laysFinal "WeighedGate$Day" "WeighedGate$Day" "comes" "[I") ∈ xT0 := xTc2 27 rfl rfl
theorem q269 : (Jvm.Cond.laysFinal "WeighedGate$Day" "WeighedGate$Day" "rowHours" "[I") ∈ xT0 := xTc2 29 rfl rfl
theorem q271 : (Jvm.Cond.laysFinal "WeighedGate$Day" "WeighedGate$Day" "rowSets" "[I") ∈ xT0 := xTc2 31 rfl rfl
theorem q273 : (Jvm.Cond.lays "WeighedGate$Day" "WeighedGate$Day" "rows" "I") ∈ xT0 := xTc2 33 rfl rfl
theorem q275 : (Jvm.Cond.lays "WeighedGate$Day" "WeighedGate$Day" "earned" "I") ∈ xT0 := xTc2 35 rfl rfl
theorem q277 : (Jvm.Cond.lays "WeighedGate$Day" "WeighedGate$Day" "through" "I") ∈ xT0 := xTc2 37 rfl rfl
theorem q279 : (Jvm.Cond.lays "WeighedGate$Day" "WeighedGate$Day" "moreIn" "I") ∈ xT0 := xTc2 39 rfl rfl
theorem q281 : (Jvm.Cond.lays "WeighedGate$Day" "WeighedGate$Day" "longestWaited" "I") ∈ xT0 := xTc2 41 rfl rfl
theorem q284 : (Jvm.Cond.classLink "WeighedGate" (61 : Nat) "WeighedGate$Sheet") ∈ xT0 := xTc2 44 rfl rfl
theorem q286 : (Jvm.Cond.classLink "WeighedGate" (67 : Nat) "WeighedGate$Image") ∈ xT0 := xTc2 46 rfl rfl
theorem q287 : (Jvm.Cond.instantiable "WeighedGate$Image" (8 : Nat)) ∈ xT0 := xTc2 47 rfl rfl
theorem q289 : (Jvm.Cond.instanceMethod ({ cls := "WeighedGate$Image", name := "<init>", desc := "()V" } : Jvm.MethodName)) ∈ xT0 := xTc2 49 rfl rfl
theorem q290 : (Jvm.Cond.code ({ cls := "WeighedGate$Image", name := "<init>", desc := "()V" } : Jvm.MethodName) prog_4_method_1_code (1 : Nat) (Option.none : Option Jvm.ClassFile.FieldType)) ∈ xT0 := xTc2 50 rfl rfl
theorem q291 : (Jvm.Cond.methodLink "WeighedGate$Image" (3 : Nat) ({ cls := "java/lang/Object", name := "<init>", desc := "()V" } : Jvm.MethodName)) ∈ xT0 := xTc2 51 rfl rfl
theorem q292 : (Jvm.Cond.fieldLink "WeighedGate$Image" (24 : Nat) "WeighedGate$Image" "isKept" "Z") ∈ xT0 := xTc2 52 rfl rfl
theorem q293 : (Jvm.Cond.fieldLink "WeighedGate" (344 : Nat) "WeighedGate$Image" "isKept" "Z") ∈ xT0 := xTc2 53 rfl rfl
theorem q294 : (Jvm.Cond.fieldLink "WeighedGate$Image" (28 : Nat) "WeighedGate$Image" "lawNumber" "I") ∈ xT0 := xTc2 54 rfl rfl
theorem q295 : (Jvm.Cond.fieldLink "WeighedGate" (351 : Nat) "WeighedGate$Image" "lawNumber" "I") ∈ xT0 := xTc2 55 rfl rfl
theorem q296 : (Jvm.Cond.fieldLink "WeighedGate$Image" (9 : Nat) "WeighedGate$Image" "settings" "[I") ∈ xT0 := xTc2 56 rfl rfl
theorem q297 : (Jvm.Cond.fieldLink "WeighedGate$Image" (15 : Nat) "WeighedGate$Image" "stones" "[I") ∈ xT0 := xTc2 57 rfl rfl
theorem q298 : (Jvm.Cond.fieldLink "WeighedGate$Image" (45 : Nat) "WeighedGate$Image" "stoneCount" "I") ∈ xT0 := xTc2 58 rfl rfl
theorem q299 : (Jvm.Cond.fieldLink "WeighedGate$Image" (18 : Nat) "WeighedGate$Image" "comes" "[I") ∈ xT0 := xTc2 59 rfl rfl
theorem q300 : (Jvm.Cond.fieldLink "WeighedGate$Image" (21 : Nat) "WeighedGate$Image" "inward" "[I") ∈ xT0 := xTc2 60 rfl rfl
theorem q301 : (Jvm.Cond.fieldLink "WeighedGate$Image" (60 : Nat) "WeighedGate$Image" "cartCount" "I") ∈ xT0 := xTc2 61 rfl rfl
theorem q302 : (Jvm.Cond.lays "WeighedGate$Image" "WeighedGate$Image" "isKept" "Z") ∈ xT0 := xTc2 62 rfl rfl
theorem q304 : (Jvm.Cond.lays "WeighedGate$Image" "WeighedGate$Image" "lawNumber" "I") ∈ xT0 := xTc2 64 rfl rfl
theorem q306 : (Jvm.Cond.laysFinal "WeighedGate$Image" "WeighedGate$Image" "settings" "[I") ∈ xT0 := xTc2 66 rfl rfl
theorem q308 : (Jvm.Cond.laysFinal "WeighedGate$Image" "WeighedGate$Image" "stones" "[I") ∈ xT0 := xTc2 68 rfl rfl
theorem q310 : (Jvm.Cond.lays "WeighedGate$Image" "WeighedGate$Image" "stoneCount" "I") ∈ xT0 := xTc2 70 rfl rfl
theorem q312 : (Jvm.Cond.laysFinal "WeighedGate$Image" "WeighedGate$Image" "comes" "[I") ∈ xT0 := xTc2 72 rfl rfl
theorem q314 : (Jvm.Cond.laysFinal "WeighedGate$Image" "WeighedGate$Image" "inward" "[I") ∈ xT0 := xTc2 74 rfl rfl
theorem q316 : (Jvm.Cond.lays "WeighedGate$Image" "WeighedGate$Image" "cartCount" "I") ∈ xT0 := xTc2 76 rfl rfl
theorem q319 : (Jvm.Cond.instantiable "WeighedGate$Text" (4 : Nat)) ∈ xT0 := xTc2 79 rfl rfl
theorem q321 : (Jvm.Cond.instanceMethod ({ cls := "WeighedGate$Text", name := "<init>", desc := "()V" } : Jvm.MethodName)) ∈ xT0 := xTc2 81 rfl rfl
theorem q322 : (Jvm.Cond.code ({ cls := "WeighedGate$Text", name := "<init>", desc := "()V" } : Jvm.MethodName) prog_9_method_1_code (1 : Nat) (Option.none : Option Jvm.ClassFile.FieldType)) ∈ xT0 := xTc2 82 rfl rfl
theorem q323 : (Jvm.Cond.methodLink "WeighedGate$Text" (3 : Nat) ({ cls := "java/lang/Object", name := "<init>", desc := "()V" } : Jvm.MethodName)) ∈ xT0 := xTc2 83 rfl rfl
theorem q324 : (Jvm.Cond.fieldLink "WeighedGate$Text" (9 : Nat) "WeighedGate$Text" "code" "[I") ∈ xT0 := xTc2 84 rfl rfl
theorem q325 : (Jvm.Cond.fieldLink "WeighedGate$Text" (15 : Nat) "WeighedGate$Text" "ends" "[I") ∈ xT0 := xTc2 85 rfl rfl
theorem q326 : (Jvm.Cond.fieldLink "WeighedGate$Reader" (47 : Nat) "WeighedGate$Text" "ends" "[I") ∈ xT0 := xTc2 86 rfl rfl
theorem q327 : (Jvm.Cond.fieldLink "WeighedGate$Text" (18 : Nat) "WeighedGate$Text" "stack" "[I") ∈ xT0 := xTc2 87 rfl rfl
theorem q328 : (Jvm.Cond.fieldLink "WeighedGate$Text" (21 : Nat) "WeighedGate$Text" "size" "I") ∈ xT0 := xTc2 88 rfl rfl
theorem q329 : (Jvm.Cond.fieldLink "WeighedGate$Reader" (50 : Nat) "WeighedGate$Text" "size" "I") ∈ xT0 := xTc2 89 rfl rfl
theorem q330 : (Jvm.Cond.laysFinal "WeighedGate$Text" "WeighedGate$Text" "code" "[I") ∈ xT0 := xTc2 90 rfl rfl
theorem q332 : (Jvm.Cond.laysFinal "WeighedGate$Text" "WeighedGate$Text" "ends" "[I") ∈ xT0 := xTc2 92 rfl rfl
theorem q334 : (Jvm.Cond.laysFinal "WeighedGate$Text" "WeighedGate$Text" "stack" "[I") ∈ xT0 := xTc2 94 rfl rfl
theorem q336 : (Jvm.Cond.lays "WeighedGate$Text" "WeighedGate$Text" "size" "I") ∈ xT0 := xTc2 96 rfl rfl
theorem q339 : (Jvm.Cond.instantiable "WeighedGate$Sheet" (3 : Nat)) ∈ xT0 := xTc2 99 rfl rfl
theorem q341 : (Jvm.Cond.instanceMethod ({ cls := "WeighedGate$Sheet", name := "<init>", desc := "()V" } : Jvm.MethodName)) ∈ xT0 := xTc2 101 rfl rfl
theorem q342 : (Jvm.Cond.code ({ cls := "WeighedGate$Sheet", name := "<init>", desc := "()V" } : Jvm.MethodName) prog_8_method_1_code (1 : Nat) (Option.none : Option Jvm.ClassFile.FieldType)) ∈ xT0 := xTc2 102 rfl rfl
theorem q343 : (Jvm.Cond.methodLink "WeighedGate$Sheet" (3 : Nat) ({ cls := "java/lang/Object", name := "<init>", desc := "()V" } : Jvm.MethodName)) ∈ xT0 := xTc2 103 rfl rfl
theorem q344 : (Jvm.Cond.fieldLink "WeighedGate$Sheet" (9 : Nat) "WeighedGate$Sheet" "sort" "I") ∈ xT0 := xTc2 104 rfl rfl
theorem q345 : (Jvm.Cond.fieldLink "WeighedGate" (352 : Nat) "WeighedGate$Sheet" "sort" "I") ∈ xT0 := xTc2 105 rfl rfl
theorem q346 : (Jvm.Cond.fieldLink "WeighedGate$Sheet" (19 : Nat) "WeighedGate$Sheet" "size" "I") ∈ xT0 := xTc2 106 rfl rfl
theorem q347 : (Jvm.Cond.fieldLink "WeighedGate$Day" (101 : Nat) "WeighedGate$Sheet" "size" "I") ∈ xT0 := xTc2 107 rfl rfl
theorem q348 : (Jvm.Cond.fieldLink "WeighedGate" (288 : Nat) "WeighedGate$Sheet" "size" "I") ∈ xT0 := xTc2 108 rfl rfl
theorem q349 : (Jvm.Cond.fieldLink "WeighedGate$Sheet" (15 : Nat) "WeighedGate$Sheet" "cells" "[I") ∈ xT0 := xTc2 109 rfl rfl
theorem q350 : (Jvm.Cond.fieldLink "WeighedGate$Day" (104 : Nat) "WeighedGate$Sheet" "cells" "[I") ∈ xT0 := xTc2 110 rfl rfl
theorem q351 : (Jvm.Cond.fieldLink "WeighedGate" (289 : Nat) "WeighedGate$Sheet" "cells" "[I") ∈ xT0 := xTc2 111 rfl rfl
theorem q352 : (Jvm.Cond.lays "WeighedGate$Sheet" "WeighedGate$Sheet" "sort" "I") ∈ xT0 := xTc2 112 rfl rfl
theorem q354 : (Jvm.Cond.lays "WeighedGate$Sheet" "WeighedGate$Sheet" "size" "I") ∈ xT0 := xTc2 114 rfl rfl
theorem q356 : (Jvm.Cond.laysFinal "WeighedGate$Sheet" "WeighedGate$Sheet" "cells" "[I") ∈ xT0 := xTc2 116 rfl rfl
theorem q360 : (Jvm.Cond.methodLink "WeighedGate" (82 : Nat) ({ cls := "java/lang/String", name := "length", desc := "()I" } : Jvm.MethodName)) ∈ xT0 := xTc2 120 rfl rfl
theorem q361 : (Jvm.Cond.instanceMethod ({ cls := "java/lang/String", name := "length", desc := "()I" } : Jvm.MethodName)) ∈ xT0 := xTc2 121 rfl rfl
theorem q362 : (Jvm.Cond.selects "java/lang/String" ({ cls := "java/lang/String", name := "length", desc := "()I" } : Jvm.MethodName) ({ cls := "java/lang/String", name := "length", desc := "()I" } : Jvm.MethodName)) ∈ xT0 := xTc2 122 rfl rfl
theorem q363 : (Jvm.Cond.code ({ cls := "java/lang/String", name := "length", desc := "()I" } : Jvm.MethodName) prog_16_method_54_code (1 : Nat) (Option.some Jvm.ClassFile.FieldType.int)) ∈ xT0 := xTc2 123 rfl rfl
theorem q364 : (Jvm.Cond.methodLink "java/lang/String" (335 : Nat) ({ cls := "java/lang/String", name := "coder", desc := "()B" } : Jvm.MethodName)) ∈ xT0 := xTc2 124 rfl rfl
theorem q365 : (Jvm.Cond.instanceMethod ({ cls := "java/lang/String", name := "coder", desc := "()B" } : Jvm.MethodName)) ∈ xT0 := xTc2 125 rfl rfl
theorem q366 : (Jvm.Cond.selects "java/lang/String" ({ cls := "java/lang/String", name := "coder", desc := "()B" } : Jvm.MethodName) ({ cls := "java/lang/String", name := "coder", desc := "()B" } : Jvm.MethodName)) ∈ xT0 := xTc2 126 rfl rfl
theorem q367 : (Jvm.Cond.code ({ cls := "java/lang/String", name := "coder", desc := "()B" } : Jvm.MethodName) prog_16_method_152_code (1 : Nat) (Option.some Jvm.ClassFile.FieldType.byte)) ∈ xT0 := xTc2 127 rfl rfl
theorem q368 : (Jvm.Cond.fieldLink "java/lang/String" (38 : Nat) "java/lang/String" "COMPACT_STRINGS" "Z") ∈ xT0 := xTc2 128 rfl rfl
theorem q370 : (Jvm.Cond.methodLink "WeighedGate" (88 : Nat) ({ cls := "java/lang/String", name := "charAt", desc := "(I)C" } : Jvm.MethodName)) ∈ xT0 := xTc2 130 rfl rfl
theorem q371 : (Jvm.Cond.instanceMethod ({ cls := "java/lang/String", name := "charAt", desc := "(I)C" } : Jvm.MethodName)) ∈ xT0 := xTc2 131 rfl rfl
theorem q372 : (Jvm.Cond.selects "java/lang/String" ({ cls := "java/lang/String", name := "charAt", desc := "(I)C" } : Jvm.MethodName) ({ cls := "java/lang/String", name := "charAt", desc := "(I)C" } : Jvm.MethodName)) ∈ xT0 := xTc2 132 rfl rfl
theorem q373 : (Jvm.Cond.code ({ cls := "java/lang/String", name := "charAt", desc := "(I)C" } : Jvm.MethodName) prog_16_method_56_code (2 : Nat) (Option.some Jvm.ClassFile.FieldType.char)) ∈ xT0 := xTc2 133 rfl rfl
theorem q374 : (Jvm.Cond.methodLink "java/lang/String" (492 : Nat) ({ cls := "java/lang/String", name := "isLatin1", desc := "()Z" } : Jvm.MethodName)) ∈ xT0 := xTc2 134 rfl rfl
theorem q375 : (Jvm.Cond.instanceMethod ({ cls := "java/lang/String", name := "isLatin1", desc := "()Z" } : Jvm.MethodName)) ∈ xT0 := xTc2 135 rfl rfl
theorem q376 : (Jvm.Cond.selects "java/lang/String" ({ cls := "java/lang/String", name := "isLatin1", desc := "()Z" } : Jvm.MethodName) ({ cls := "java/lang/String", name := "isLatin1", desc := "()Z" } : Jvm.MethodName)) ∈ xT0 := xTc2 136 rfl rfl
theorem q377 : (Jvm.Cond.code ({ cls := "java/lang/String", name := "isLatin1", desc := "()Z" } : Jvm.MethodName) prog_16_method_154_code (1 : Nat) (Option.some Jvm.ClassFile.FieldType.boolean)) ∈ xT0 := xTc2 137 rfl rfl
theorem q378 : (Jvm.Cond.methodLink "java/lang/String" (495 : Nat) ({ cls := "java/lang/StringLatin1", name := "charAt", desc := "([BI)C" } : Jvm.MethodName)) ∈ xT0 := xTc2 138 rfl rfl
theorem q379 : (Jvm.Cond.static ({ cls := "java/lang/StringLatin1", name := "charAt", desc := "([BI)C" } : Jvm.MethodName)) ∈ xT0 := xTc2 139 rfl rfl
theorem q380 : (Jvm.Cond.code ({ cls := "java/lang/StringLatin1", name := "charAt", desc := "([BI)C" } : Jvm.MethodName) prog_17_method_2_code (2 : Nat) (Option.some Jvm.ClassFile.FieldType.char)) ∈ xT0 := xTc2 140 rfl rfl
theorem q381 : (Jvm.Cond.methodLink "java/lang/StringLatin1" (9 : Nat) ({ cls := "java/lang/String", name := "checkIndex", desc := "(II)V" } : Jvm.MethodName)) ∈ xT0 := xTc2 141 rfl rfl
theorem q382 : (Jvm.Cond.static ({ cls := "java/lang/String", name := "checkIndex", desc := "(II)V" } : Jvm.MethodName)) ∈ xT0 := xTc2 142 rfl rfl
theorem q383 : (Jvm.Cond.code ({ cls := "java/lang/String", name := "checkIndex", desc := "(II)V" } : Jvm.MethodName) prog_16_method_155_code (2 : Nat) (Option.none : Option Jvm.ClassFile.FieldType)) ∈ xT0 := xTc2 143 rfl rfl
theorem q384 : (Jvm.Cond.fieldLink "java/lang/String" (1053 : Nat) "jdk/internal/util/Preconditions" "SIOOBE_FORMATTER" "Ljava/util/function/BiFunction;") ∈ xT0 := xTc2 144 rfl rfl
theorem q386 : (Jvm.Cond.methodLink "java/lang/String" (1059 : Nat) ({ cls := "jdk/internal/util/Preconditions", name := "checkIndex", desc := "(IILjava/util/function/BiFunction;)I" } : Jvm.MethodName)) ∈ xT0 := xTc2 146 rfl rfl
theorem q387 : (Jvm.Cond.static ({ cls := "jdk/internal/util/Preconditions", name := "checkIndex", desc := "(IILjava/util/function/BiFunction;)I" } : Jvm.MethodName)) ∈ xT0 := xTc2 147 rfl rfl
theorem q388 : (Jvm.Cond.code ({ cls := "jdk/internal/util/Preconditions", name := "checkIndex", desc := "(IILjava/util/function/BiFunction;)I" } : Jvm.MethodName) prog_20_method_11_code (3 : Nat) (Option.some Jvm.ClassFile.FieldType.int)) ∈ xT0 := xTc2 148 rfl rfl
theorem q389 : (Jvm.Cond.methodLink "java/lang/String" (498 : Nat) ({ cls := "java/lang/StringUTF16", name := "charAt", desc := "([BI)C" } : Jvm.MethodName)) ∈ xT0 := xTc2 149 rfl rfl
theorem q390 : (Jvm.Cond.static ({ cls := "java/lang/StringUTF16", name := "charAt", desc := "([BI)C" } : Jvm.MethodName)) ∈ xT0 := xTc2 150 rfl rfl
theorem q391 : (Jvm.Cond.code ({ cls := "java/lang/StringUTF16", name := "charAt", desc := "([BI)C" } : Jvm.MethodName) prog_18_method_83_code (2 : Nat) (Option.some Jvm.ClassFile.FieldType.char)) ∈ xT0 := xTc2 151 rfl rfl
theorem q392 : (Jvm.Cond.methodLink "java/lang/StringUTF16" (67 : Nat) ({ cls := "java/lang/StringUTF16", name := "checkIndex", desc := "(I[B)V" } : Jvm.MethodName)) ∈ xT0 := xTc2 152 rfl rfl
theorem q393 : (Jvm.Cond.static ({ cls := "java/lang/StringUTF16", name := "checkIndex", desc := "(I[B)V" } : Jvm.MethodName)) ∈ xT0 := xTc2 153 rfl rfl
theorem q394 : (Jvm.Cond.code ({ cls := "java/lang/StringUTF16", name := "checkIndex", desc := "(I[B)V" } : Jvm.MethodName) prog_18_method_91_code (2 : Nat) (Option.none : Option Jvm.ClassFile.FieldType)) ∈ xT0 := xTc2 154 rfl rfl
theorem q395 : (Jvm.Cond.methodLink "java/lang/StringUTF16" (48 : Nat) ({ cls := "java/lang/StringUTF16", name := "length", desc := "([B)I" } : Jvm.MethodName)) ∈ xT0 := xTc2 155 rfl rfl
theorem q396 : (Jvm.Cond.static ({ cls := "java/lang/StringUTF16", name := "length", desc := "([B)I" } : Jvm.MethodName)) ∈ xT0 := xTc2 156 rfl rfl
theorem q397 : (Jvm.Cond.code ({ cls := "java/lang/StringUTF16", name := "length", desc := "([B)I" } : Jvm.MethodName) prog_18_method_6_code (1 : Nat) (Option.some Jvm.ClassFile.FieldType.int)) ∈ xT0 := xTc2 157 rfl rfl
theorem q398 : (Jvm.Cond.methodLink "java/lang/StringUTF16" (414 : Nat) ({ cls := "java/lang/String", name := "checkIndex", desc := "(II)V" } : Jvm.MethodName)) ∈ xT0 := xTc2 158 rfl rfl
theorem q399 : (Jvm.Cond.methodLink "java/lang/StringUTF16" (71 : Nat) ({ cls := "java/lang/StringUTF16", name := "getChar", desc := "([BI)C" } : Jvm.MethodName)) ∈ xT0 := xTc2 159 rfl rfl
theorem q400 : (Jvm.Cond.static ({ cls := "java/lang/StringUTF16", name := "getChar", desc := "([BI)C" } : Jvm.MethodName)) ∈ xT0 := xTc2 160 rfl rfl
theorem q401 : (Jvm.Cond.code ({ cls := "java/lang/StringUTF16", name := "getChar", desc := "([BI)C" } : Jvm.MethodName) prog_18_method_5_code (2 : Nat) (Option.some Jvm.ClassFile.FieldType.char)) ∈ xT0 := xTc2 161 rfl rfl
theorem q402 : (Jvm.Cond.fieldLink "java/lang/StringUTF16" (44 : Nat) "java/lang/StringUTF16" "$assertionsDisabled" "Z") ∈ xT0 := xTc2 162 rfl rfl
theorem q404 : (Jvm.Cond.fieldLink "java/lang/StringUTF16" (59 : Nat) "java/lang/StringUTF16" "HI_BYTE_SHIFT" "I") ∈ xT0 := xTc2 164 rfl rfl
theorem q406 : (Jvm.Cond.fieldLink "java/lang/StringUTF16" (63 : Nat) "java/lang/StringUTF16" "LO_BYTE_SHIFT" "I") ∈ xT0 := xTc2 166 rfl rfl
theorem q408 : (Jvm.Cond.methodLink "WeighedGate" (92 : Nat) ({ cls := "WeighedGate$Reader", name := "put", desc := "(I)V" } : Jvm.MethodName)) ∈ xT0 := xTc2 168 rfl rfl
theorem q409 : (Jvm.Cond.instanceMethod ({ cls := "WeighedGate$Reader", name := "put", desc := "(I)V" } : Jvm.MethodName)) ∈ xT0 := xTc2 169 rfl rfl
theorem q410 : (Jvm.Cond.selects "WeighedGate$Reader" ({ cls := "WeighedGate$Reader", name := "put", desc := "(I)V" } : Jvm.MethodName) ({ cls := "WeighedGate$Reader", name := "put", desc := "(I)V" } : Jvm.MethodName)) ∈ xT0 := xTc2 170 rfl rfl
theorem q411 : (Jvm.Cond.code ({ cls := "WeighedGate$Reader", name := "put", desc := "(I)V" } : Jvm.MethodName) prog_6_method_2_code (2 : Nat) (Option.none : Option Jvm.ClassFile.FieldType)) ∈ xT0 := xTc2 171 rfl rfl
theorem q412 : (Jvm.Cond.methodLink "WeighedGate" (96 : Nat) ({ cls := "WeighedGate$Reader", name := "readInto", desc := "(LWeighedGate$Text;)I" } : Jvm.MethodName)) ∈ xT0 := xTc2 172 rfl rfl
theorem q413 : (Jvm.Cond.instanceMethod ({ cls := "WeighedGate$Reader", name := "readInto", desc := "(LWeighedGate$Text;)I" } : Jvm.MethodName)) ∈ xT0 := xTc2 173 rfl rfl
theorem q414 : (Jvm.Cond.selects "WeighedGate$Reader" ({ cls := "WeighedGate$Reader", name := "readInto", desc := "(LWeighedGate$Text;)I" } : Jvm.MethodName) ({ cls := "WeighedGate$Reader", name := "readInto", desc := "(LWeighedGate$Text;)I" } : Jvm.MethodName)) ∈ xT0 := xTc2 174 rfl rfl
theorem q415 : (Jvm.Cond.code ({ cls := "WeighedGate$Reader", name := "readInto", desc := "(LWeighedGate$Text;)I" } : Jvm.MethodName) prog_6_method_3_code (3 : Nat) (Option.some Jvm.ClassFile.FieldType.int)) ∈ xT0 := xTc2 175 rfl rfl
theorem q416 : (Jvm.Cond.methodLink "WeighedGate$Reader" (23 : Nat) ({ cls := "WeighedGate$Text", name := "clear", desc := "()V" } : Jvm.MethodName)) ∈ xT0 := xTc2 176 rfl rfl
theorem q417 : (Jvm.Cond.instanceMethod ({ cls := "WeighedGate$Text", name := "clear", desc := "()V" } : Jvm.MethodName)) ∈ xT0 := xTc2 177 rfl rfl
theorem q418 : (Jvm.Cond.selects "WeighedGate$Text" ({ cls := "WeighedGate$Text", name := "clear", desc := "()V" } : Jvm.MethodName) ({ cls := "WeighedGate$Text", name := "clear", desc := "()V" } : Jvm.MethodName)) ∈ xT0 := xTc2 178 rfl rfl
theorem q419 : (Jvm.Cond.code ({ cls := "WeighedGate$Text", name := "clear", desc := "()V" } : Jvm.MethodName) prog_9_method_2_code (1 : Nat) (Option.none : Option Jvm.ClassFile.FieldType)) ∈ xT0 := xTc2 179 rfl rfl
theorem q420 : (Jvm.Cond.methodLink "WeighedGate$Reader" (37 : Nat) ({ cls := "WeighedGate$Reader", name := "advance", desc := "()V" } : Jvm.MethodName)) ∈ xT0 := xTc2 180 rfl rfl
theorem q422 : (Jvm.Cond.instanceMethod ({ cls := "WeighedGate$Reader", name := "advance", desc := "()V" } : Jvm.MethodName)) ∈ xT0 := xTc2 182 rfl rfl
theorem q423 : (Jvm.Cond.code ({ cls := "WeighedGate$Reader", name := "advance", desc := "()V" } : Jvm.MethodName) prog_6_method_11_code (1 : Nat) (Option.none : Option Jvm.ClassFile.FieldType)) ∈ xT0 := xTc2 183 rfl rfl
theorem q424 : (Jvm.Cond.methodLink "WeighedGate$Reader" (78 : Nat) ({ cls := "WeighedGate$Reader", name := "isBlank", desc := "(I)Z" } : Jvm.MethodName)) ∈ xT0 := xTc2 184 rfl rfl
theorem q425 : (Jvm.Cond.static ({ cls := "WeighedGate$Reader", name := "isBlank", desc := "(I)Z" } : Jvm.MethodName)) ∈ xT0 := xTc2 185 rfl rfl
theorem q426 : (Jvm.Cond.code ({ cls := "WeighedGate$Reader", name := "isBlank", desc := "(I)Z" } : Jvm.MethodName) prog_6_method_16_code (1 : Nat) (Option.some Jvm.ClassFile.FieldType.boolean)) ∈ xT0 := xTc2 186 rfl rfl
theorem q427 : (Jvm.Cond.methodLink "WeighedGate$Reader" (82 : Nat) ({ cls := "WeighedGate$Reader", name := "isLetter", desc := "(I)Z" } : Jvm.MethodName)) ∈ xT0 := xTc2 187 rfl rfl
theorem q428 : (Jvm.Cond.static ({ cls := "WeighedGate$Reader", name := "isLetter", desc := "(I)Z" } : Jvm.MethodName)) ∈ xT0 := xTc2 188 rfl rfl
theorem q429 : (Jvm.Cond.code ({ cls := "WeighedGate$Reader", name := "isLetter", desc := "(I)Z" } : Jvm.MethodName) prog_6_method_17_code (1 : Nat) (Option.some Jvm.ClassFile.FieldType.boolean)) ∈ xT0 := xTc2 189 rfl rfl
theorem q430 : (Jvm.Cond.methodLink "WeighedGate$Reader" (85 : Nat) ({ cls := "WeighedGate$Reader", name := "nextWord", desc := "()I" } : Jvm.MethodName)) ∈ xT0 := xTc2 190 rfl rfl
theorem q432 : (Jvm.Cond.instanceMethod ({ cls := "WeighedGate$Reader", name := "nextWord", desc := "()I" } : Jvm.MethodName)) ∈ xT0 := xTc2 192 rfl rfl
theorem q433 : (Jvm.Cond.code ({ cls := "WeighedGate$Reader", name := "nextWord", desc := "()I" } : Jvm.MethodName) prog_6_method_12_code (1 : Nat) (Option.some Jvm.ClassFile.FieldType.int)) ∈ xT0 := xTc2 193 rfl rfl
theorem q435 : (Jvm.Cond.methodLink "WeighedGate$Reader" (101 : Nat) ({ cls := "WeighedGate$Reader", name := "spells", desc := "(Ljava/lang/String;)Z" } : Jvm.MethodName)) ∈ xT0 := xTc2 195 rfl rfl
theorem q437 : (Jvm.Cond.instanceMethod ({ cls := "WeighedGate$Reader", name := "spells", desc := "(Ljava/lang/String;)Z" } : Jvm.MethodName)) ∈ xT0 := xTc2 197 rfl rfl
theorem q438 : (Jvm.Cond.code ({ cls := "WeighedGate$Reader", name := "spells", desc := "(Ljava/lang/String;)Z" } : Jvm.MethodName) prog_6_method_14_code (3 : Nat) (Option.some Jvm.ClassFile.FieldType.boolean)) ∈ xT0 := xTc2 198 rfl rfl
theorem q439 : (Jvm.Cond.methodLink "WeighedGate$Reader" (127 : Nat) ({ cls := "java/lang/String", name := "length", desc := "()I" } : Jvm.MethodName)) ∈ xT0 := xTc2 199 rfl rfl
theorem q440 : (Jvm.Cond.methodLink "WeighedGate$Reader" (132 : Nat) ({ cls := "java/lang/String", name := "charAt", desc := "(I)C" } : Jvm.MethodName)) ∈ xT0 := xTc2 200 rfl rfl
theorem q452 : (Jvm.Cond.methodLink "WeighedGate$Reader" (89 : Nat) ({ cls := "WeighedGate$Reader", name := "isDigit", desc := "(I)Z" } : Jvm.MethodName)) ∈ xT0 := xTc2 212 rfl rfl
theorem q453 : (Jvm.Cond.static ({ cls := "WeighedGate$Reader", name := "isDigit", desc := "(I)Z" } : Jvm.MethodName)) ∈ xT0 := xTc2 213 rfl rfl
theorem q454 : (Jvm.Cond.code ({ cls := "WeighedGate$Reader", name := "isDigit", desc := "(I)Z" } : Jvm.MethodName) prog_6_method_18_code (1 : Nat) (Option.some Jvm.ClassFile.FieldType.boolean)) ∈ xT0 := xTc2 214 rfl rfl
theorem q455 : (Jvm.Cond.methodLink "WeighedGate$Reader" (92 : Nat) ({ cls := "WeighedGate$Reader", name := "nextNumber", desc := "()I" } : Jvm.MethodName)) ∈ xT0 := xTc2 215 rfl rfl
theorem q457 : (Jvm.Cond.instanceMethod ({ cls := "WeighedGate$Reader", name := "nextNumber", desc := "()I" } : Jvm.MethodName)) ∈ xT0 := xTc2 217 rfl rfl
theorem q458 : (Jvm.Cond.code ({ cls := "WeighedGate$Reader", name := "nextNumber", desc := "()I" } : Jvm.MethodName) prog_6_method_13_code (2 : Nat) (Option.some Jvm.ClassFile.FieldType.int)) ∈ xT0 := xTc2 218 rfl rfl
theorem q459 : (Jvm.Cond.methodLink "WeighedGate$Reader" (95 : Nat) ({ cls := "WeighedGate$Reader", name := "signOf", desc := "(I)I" } : Jvm.MethodName)) ∈ xT0 := xTc2 219 rfl rfl
theorem q460 : (Jvm.Cond.static ({ cls := "WeighedGate$Reader", name := "signOf", desc := "(I)I" } : Jvm.MethodName)) ∈ xT0 := xTc2 220 rfl rfl
theorem q461 : (Jvm.Cond.code ({ cls := "WeighedGate$Reader", name := "signOf", desc := "(I)I" } : Jvm.MethodName) prog_6_method_15_code (1 : Nat) (Option.some Jvm.ClassFile.FieldType.int)) ∈ xT0 := xTc2 221 rfl rfl
theorem q462 : (Jvm.Cond.methodLink "WeighedGate$Reader" (40 : Nat) ({ cls := "WeighedGate$Reader", name := "expect", desc := "(I)V" } : Jvm.MethodName)) ∈ xT0 := xTc2 222 rfl rfl
theorem q464 : (Jvm.Cond.instanceMethod ({ cls := "WeighedGate$Reader", name := "expect", desc := "(I)V" } : Jvm.MethodName)) ∈ xT0 := xTc2 224 rfl rfl
theorem q465 : (Jvm.Cond.code ({ cls := "WeighedGate$Reader", name := "expect", desc := "(I)V" } : Jvm.MethodName) prog_6_method_5_code (2 : Nat) (Option.none : Option Jvm.ClassFile.FieldType)) ∈ xT0 := xTc2 225 rfl rfl
theorem q466 : (Jvm.Cond.methodLink "WeighedGate$Reader" (54 : Nat) ({ cls := "WeighedGate$Reader", name := "fail", desc := "()V" } : Jvm.MethodName)) ∈ xT0 := xTc2 226 rfl rfl
theorem q468 : (Jvm.Cond.instanceMethod ({ cls := "WeighedGate$Reader", name := "fail", desc := "()V" } : Jvm.MethodName)) ∈ xT0 := xTc2 228 rfl rfl
theorem q469 : (Jvm.Cond.code ({ cls := "WeighedGate$Reader", name := "fail", desc := "()V" } : Jvm.MethodName) prog_6_method_4_code (1 : Nat) (Option.none : Option Jvm.ClassFile.FieldType)) ∈ xT0 := xTc2 229 rfl rfl
theorem q470 : (Jvm.Cond.methodLink "WeighedGate$Reader" (44 : Nat) ({ cls := "WeighedGate$Reader", name := "readLevel", desc := "(I)V" } : Jvm.MethodName)) ∈ xT0 := xTc2 230 rfl rfl
theorem q472 : (Jvm.Cond.instanceMethod ({ cls := "WeighedGate$Reader", name := "readLevel", desc := "(I)V" } : Jvm.MethodName)) ∈ xT0 := xTc2 232 rfl rfl
theorem q473 : (Jvm.Cond.code ({ cls := "WeighedGate$Reader", name := "readLevel", desc := "(I)V" } : Jvm.MethodName) prog_6_method_6_code (5 : Nat) (Option.none : Option Jvm.ClassFile.FieldType)) ∈ xT0 := xTc2 233 rfl rfl
theorem q474 : (Jvm.Cond.methodLink "WeighedGate$Reader" (60 : Nat) ({ cls := "WeighedGate$Reader", name := "readBehind", desc := "(II)V" } : Jvm.MethodName)) ∈ xT0 := xTc2 234 rfl rfl
theorem q476 : (Jvm.Cond.instanceMethod ({ cls := "WeighedGate$Reader", name := "readBehind", desc := "(II)V" } : Jvm.MethodName)) ∈ xT0 := xTc2 236 rfl rfl
theorem q477 : (Jvm.Cond.code ({ cls := "WeighedGate$Reader", name := "readBehind", desc := "(II)V" } : Jvm.MethodName) prog_6_method_9_code (3 : Nat) (Option.none : Option Jvm.ClassFile.FieldType)) ∈ xT0 := xTc2 237 rfl rfl
theorem q478 : (Jvm.Cond.methodLink "WeighedGate$Reader" (74 : Nat) ({ cls := "WeighedGate$Reader", name := "opens", desc := "()Z" } : Jvm.MethodName)) ∈ xT0 := xTc2 238 rfl rfl
theorem q480 : (Jvm.Cond.instanceMethod ({ cls := "WeighedGate$Reader", name := "opens", desc := "()Z" } : Jvm.MethodName)) ∈ xT0 := xTc3 0 rfl rfl
theorem q481 : (Jvm.Cond.code ({ cls := "WeighedGate$Reader", name := "opens", desc := "()Z" } : Jvm.MethodName) prog_6_method_10_code (1 : Nat) (Option.some Jvm.ClassFile.FieldType.boolean)) ∈ xT0 := xTc3 1 rfl rfl
theorem q482 : (Jvm.Cond.methodLink "WeighedGate$Reader" (71 : Nat) ({ cls := "WeighedGate$Text", name := "add", desc := "(I)V" } : Jvm.MethodName)) ∈ xT0 := xTc3 2 rfl rfl
theorem q483 : (Jvm.Cond.instanceMethod ({ cls := "WeighedGate$Text", name := "add", desc := "(I)V" } : Jvm.MethodName)) ∈ xT0 := xTc3 3 rfl rfl
theorem q484 : (Jvm.Cond.selects "WeighedGate$Text" ({ cls := "WeighedGate$Text", name := "add", desc := "(I)V" } : Jvm.MethodName) ({ cls := "WeighedGate$Text", name := "add", desc := "(I)V" } : Jvm.MethodName)) ∈ xT0 := xTc3 4 rfl rfl
theorem q485 : (Jvm.Cond.code ({ cls := "WeighedGate$Text", name := "add", desc := "(I)V" } : Jvm.MethodName) prog_9_method_3_code (2 : Nat) (Option.none : Option Jvm.ClassFile.FieldType)) ∈ xT0 := xTc3 5 rfl rfl
theorem q486 : (Jvm.Cond.methodLink "WeighedGate$Reader" (64 : Nat) ({ cls := "WeighedGate$Reader", name := "readOne", desc := "()V" } : Jvm.MethodName)) ∈ xT0 := xTc3 6 rfl rfl
theorem q488 : (Jvm.Cond.instanceMethod ({ cls := "WeighedGate$Reader", name := "readOne", desc := "()V" } : Jvm.MethodName)) ∈ xT0 := xTc3 8 rfl rfl
theorem q489 : (Jvm.Cond.code ({ cls := "WeighedGate$Reader", name := "readOne", desc := "()V" } : Jvm.MethodName) prog_6_method_8_code (1 : Nat) (Option.none : Option Jvm.ClassFile.FieldType)) ∈ xT0 := xTc3 9 rfl rfl
theorem q490 : (Jvm.Cond.methodLink "WeighedGate$Reader" (67 : Nat) ({ cls := "WeighedGate$Reader", name := "joins", desc := "(II)Z" } : Jvm.MethodName)) ∈ xT0 := xTc3 10 rfl rfl
theorem q491 : (Jvm.Cond.static ({ cls := "WeighedGate$Reader", name := "joins", desc := "(II)Z" } : Jvm.MethodName)) ∈ xT0 := xTc3 11 rfl rfl
theorem q492 : (Jvm.Cond.code ({ cls := "WeighedGate$Reader", name := "joins", desc := "(II)Z" } : Jvm.MethodName) prog_6_method_7_code (2 : Nat) (Option.some Jvm.ClassFile.FieldType.boolean)) ∈ xT0 := xTc3 12 rfl rfl
theorem q493 : (Jvm.Cond.fieldLink "WeighedGate" (12 : Nat) "WeighedGate" "beam" "LWeighedGate$Scale;") ∈ xT0 := xTc3 13 rfl rfl
theorem q494 : (Jvm.Cond.fieldLink "WeighedGate" (19 : Nat) "WeighedGate" "yard" "LWeighedGate$Yard;") ∈ xT0 := xTc3 14 rfl rfl
theorem q495 : (Jvm.Cond.fieldLink "WeighedGate" (25 : Nat) "WeighedGate" "texts" "[LWeighedGate$Text;") ∈ xT0 := xTc3 15 rfl rfl
theorem q496 : (Jvm.Cond.fieldLink "WeighedGate" (100 : Nat) "WeighedGate" "textCount" "I") ∈ xT0 := xTc3 16 rfl rfl
theorem q497 : (Jvm.Cond.fieldLink "WeighedGate" (123 : Nat) "WeighedGate" "lawNumber" "I") ∈ xT0 := xTc3 17 rfl rfl
theorem q498 : (Jvm.Cond.fieldLink "WeighedGate" (32 : Nat) "WeighedGate" "reader" "LWeighedGate$Reader;") ∈ xT0 := xTc3 18 rfl rfl
theorem q499 : (Jvm.Cond.fieldLink "WeighedGate" (41 : Nat) "WeighedGate" "weighing" "LWeighedGate$Weighing;") ∈ xT0 := xTc3 19 rfl rfl
theorem q500 : (Jvm.Cond.fieldLink "WeighedGate" (50 : Nat) "WeighedGate" "pairing" "LWeighedGate$Pairs;") ∈ xT0 := xTc3 20 rfl rfl
theorem q501 : (Jvm.Cond.fieldLink "WeighedGate" (57 : Nat) "WeighedGate" "day" "LWeighedGate$Day;") ∈ xT0 := xTc3 21 rfl rfl
theorem q502 : (Jvm.Cond.fieldLink "WeighedGate" (63 : Nat) "WeighedGate" "sheets" "[LWeighedGate$Sheet;") ∈ xT0 := xTc3 22 rfl rfl
theorem q503 : (Jvm.Cond.fieldLink "WeighedGate" (70 : Nat) "WeighedGate" "kept" "LWeighedGate$Image;") ∈ xT0 := xTc3 23 rfl rfl
theorem q504 : (Jvm.Cond.fieldLink "WeighedGate" (74 : Nat) "WeighedGate" "asked" "[I") ∈ xT0 := xTc3 24 rfl rfl
theorem q505 : (Jvm.Cond.laysFinal "WeighedGate" "WeighedGate" "beam" "LWeighedGate$Scale;") ∈ xT0 := xTc3 25 rfl rfl
theorem q507 : (Jvm.Cond.laysFinal "WeighedGate" "WeighedGate" "yard" "LWeighedGate$Yard;") ∈ xT0 := xTc3 27 rfl rfl
theorem q509 : (Jvm.Cond.laysFinal "WeighedGate" "WeighedGate" "texts" "[LWeighedGate$Text;") ∈ xT0 := xTc3 29 rfl rfl
theorem q511 : (Jvm.Cond.lays "WeighedGate" "WeighedGate" "textCount" "I") ∈ xT0 := xTc3 31 rfl rfl
theorem q513 : (Jvm.Cond.lays "WeighedGate" "WeighedGate" "lawNumber" "I") ∈ xT0 := xTc3 33 rfl rfl
theorem q515 : (Jvm.Cond.laysFinal "WeighedGate" "WeighedGate" "reader" "LWeighedGate$Reader;") ∈ xT0 := xTc3 35 rfl rfl
theorem q517 : (Jvm.Cond.laysFinal "WeighedGate" "WeighedGate" "weighing" "LWeighedGate$Weighing;") ∈ xT0 := xTc3 37 rfl rfl
theorem q519 : (Jvm.Cond.laysFinal "WeighedGate" "WeighedGate" "pairing" "LWeighedGate$Pairs;") ∈ xT0 := xTc3 39 rfl rfl
theorem q521 : (Jvm.Cond.laysFinal "WeighedGate" "WeighedGate" "day" "LWeighedGate$Day;") ∈ xT0 := xTc3 41 rfl rfl
theorem q523 : (Jvm.Cond.laysFinal "WeighedGate" "WeighedGate" "sheets" "[LWeighedGate$Sheet;") ∈ xT0 := xTc3 43 rfl rfl
theorem q525 : (Jvm.Cond.laysFinal "WeighedGate" "WeighedGate" "kept" "LWeighedGate$Image;") ∈ xT0 := xTc3 45 rfl rfl
theorem q527 : (Jvm.Cond.laysFinal "WeighedGate" "WeighedGate" "asked" "[I") ∈ xT0 := xTc3 47 rfl rfl
theorem q530 : (Jvm.Cond.arrayClass Jvm.ClassFile.FieldType.byte) ∈ xT0 := xTc3 50 rfl rfl
theorem q531 : (Jvm.Cond.methodLink "WeighedGateLaw" (13 : Nat) ({ cls := "WeighedGate", name := "scale", desc := "(II)I" } : Jvm.MethodName)) ∈ xT0 := xTc3 51 rfl rfl
theorem q532 : (Jvm.Cond.instanceMethod ({ cls := "WeighedGate", name := "scale", desc := "(II)I" } : Jvm.MethodName)) ∈ xT0 := xTc3 52 rfl rfl
theorem q533 : (Jvm.Cond.selects "WeighedGate" ({ cls := "WeighedGate", name := "scale", desc := "(II)I" } : Jvm.MethodName) ({ cls := "WeighedGate", name := "scale", desc := "(II)I" } : Jvm.MethodName)) ∈ xT0 := xTc3 53 rfl rfl
theorem q534 : (Jvm.Cond.code ({ cls := "WeighedGate", name := "scale", desc := "(II)I" } : Jvm.MethodName) prog_1_method_2_code (5 : Nat) (Option.some Jvm.ClassFile.FieldType.int)) ∈ xT0 := xTc3 54 rfl rfl
theorem q535 : (Jvm.Cond.methodLink "WeighedGate" (104 : Nat) ({ cls := "WeighedGate", name := "within", desc := "(III)Z" } : Jvm.MethodName)) ∈ xT0 := xTc3 55 rfl rfl
theorem q536 : (Jvm.Cond.static ({ cls := "WeighedGate", name := "within", desc := "(III)Z" } : Jvm.MethodName)) ∈ xT0 := xTc3 56 rfl rfl
theorem q537 : (Jvm.Cond.code ({ cls := "WeighedGate", name := "within", desc := "(III)Z" } : Jvm.MethodName) prog_1_method_41_code (3 : Nat) (Option.some Jvm.ClassFile.FieldType.boolean)) ∈ xT0 := xTc3 57 rfl rfl
theorem q538 : (Jvm.Cond.methodLink "WeighedGateLaw" (18 : Nat) ({ cls := "WeighedGate", name := "stone", desc := "(I)I" } : Jvm.MethodName)) ∈ xT0 := xTc3 58 rfl rfl
theorem q539 : (Jvm.Cond.instanceMethod ({ cls := "WeighedGate", name := "stone", desc := "(I)I" } : Jvm.MethodName)) ∈ xT0 := xTc3 59 rfl rfl
theorem q540 : (Jvm.Cond.selects "WeighedGate" ({ cls := "WeighedGate", name := "stone", desc := "(I)I" } : Jvm.MethodName) ({ cls := "WeighedGate", name := "stone", desc := "(I)I" } : Jvm.MethodName)) ∈ xT0 := xTc3 60 rfl rfl
theorem q541 : (Jvm.Cond.code ({ cls := "WeighedGate", name := "stone", desc := "(I)I" } : Jvm.MethodName) prog_1_method_3_code (3 : Nat) (Option.some Jvm.ClassFile.FieldType.int)) ∈ xT0 := xTc3 61 rfl rfl
theorem q542 : (Jvm.Cond.methodLink "WeighedGate" (117 : Nat) ({ cls := "WeighedGate$Scale", name := "layAll", desc := "()V" } : Jvm.MethodName)) ∈ xT0 := xTc3 62 rfl rfl
theorem q543 : (Jvm.Cond.methodLink "WeighedGateLaw" (23 : Nat) ({ cls := "WeighedGate", name := "sell", desc := "()I" } : Jvm.MethodName)) ∈ xT0 := xTc3 63 rfl rfl
theorem q544 : (Jvm.Cond.instanceMethod ({ cls := "WeighedGate", name := "sell", desc := "()I" } : Jvm.MethodName)) ∈ xT0 := xTc3 64 rfl rfl
theorem q545 : (Jvm.Cond.selects "WeighedGate" ({ cls := "WeighedGate", name := "sell", desc := "()I" } : Jvm.MethodName) ({ cls := "WeighedGate", name := "sell", desc := "()I" } : Jvm.MethodName)) ∈ xT0 := xTc3 65 rfl rfl
theorem q546 : (Jvm.Cond.code ({ cls := "WeighedGate", name := "sell", desc := "()I" } : Jvm.MethodName) prog_1_method_4_code (1 : Nat) (Option.some Jvm.ClassFile.FieldType.int)) ∈ xT0 := xTc3 66 rfl rfl
theorem q547 : (Jvm.Cond.methodLink "WeighedGateLaw" (28 : Nat) ({ cls := "WeighedGate", name := "stoneTold", desc := "(I)I" } : Jvm.MethodName)) ∈ xT0 := xTc3 67 rfl rfl
theorem q548 : (Jvm.Cond.instanceMethod ({ cls := "WeighedGate", name := "stoneTold", desc := "(I)I" } : Jvm.MethodName)) ∈ xT0 := xTc3 68 rfl rfl
theorem q549 : (Jvm.Cond.selects "WeighedGate" ({ cls := "WeighedGate", name := "stoneTold", desc := "(I)I" } : Jvm.MethodName) ({ cls := "WeighedGate", name := "stoneTold", desc := "(I)I" } : Jvm.MethodName)) ∈ xT0 := xTc3 69 rfl rfl
theorem q550 : (Jvm.Cond.code ({ cls := "WeighedGate", name := "stoneTold", desc := "(I)I" } : Jvm.MethodName) prog_1_method_5_code (2 : Nat) (Option.some Jvm.ClassFile.FieldType.int)) ∈ xT0 := xTc3 70 rfl rfl
theorem q551 : (Jvm.Cond.methodLink "WeighedGateLaw" (32 : Nat) ({ cls := "WeighedGate", name := "count", desc := "(I)I" } : Jvm.MethodName)) ∈ xT0 := xTc3 71 rfl rfl
theorem q552 : (Jvm.Cond.instanceMethod ({ cls := "WeighedGate", name := "count", desc := "(I)I" } : Jvm.MethodName)) ∈ xT0 := xTc3 72 rfl rfl
theorem q553 : (Jvm.Cond.selects "WeighedGate" ({ cls := "WeighedGate", name := "count", desc := "(I)I" } : Jvm.MethodName) ({ cls := "WeighedGate", name := "count", desc := "(I)I" } : Jvm.MethodName)) ∈ xT0 := xTc3 73 rfl rfl
theorem q554 : (Jvm.Cond.code ({ cls := "WeighedGate", name := "count", desc := "(I)I" } : Jvm.MethodName) prog_1_method_6_code (2 : Nat) (Option.some Jvm.ClassFile.FieldType.int)) ∈ xT0 := xTc3 74 rfl rfl
theorem q555 : (Jvm.Cond.methodLink "WeighedGateLaw" (36 : Nat) ({ cls := "WeighedGate", name := "feed", desc := "(IIIIII)I" } : Jvm.MethodName)) ∈ xT0 := xTc3 75 rfl rfl
theorem q556 : (Jvm.Cond.instanceMethod ({ cls := "WeighedGate", name := "feed", desc := "(IIIIII)I" } : Jvm.MethodName)) ∈ xT0 := xTc3 76 rfl rfl
theorem q557 : (Jvm.Cond.selects "WeighedGate" ({ cls := "WeighedGate", name := "feed", desc := "(IIIIII)I" } : Jvm.MethodName) ({ cls := "WeighedGate", name := "feed", desc := "(IIIIII)I" } : Jvm.MethodName)) ∈ xT0 := xTc3 77 rfl rfl
theorem q558 : (Jvm.Cond.code ({ cls := "WeighedGate", name := "feed", desc := "(IIIIII)I" } : Jvm.MethodName) prog_1_method_7_code (7 : Nat) (Option.some Jvm.ClassFile.FieldType.int)) ∈ xT0 := xTc3 78 rfl rfl
theorem q559 : (Jvm.Cond.methodLink "WeighedGate" (127 : Nat) ({ cls := "WeighedGate", name := "isByte", desc := "(I)Z" } : Jvm.MethodName)) ∈ xT0 := xTc3 79 rfl rfl
theorem q560 : (Jvm.Cond.static ({ cls := "WeighedGate", name := "isByte", desc := "(I)Z" } : Jvm.MethodName)) ∈ xT0 := xTc3 80 rfl rfl
theorem q561 : (Jvm.Cond.code ({ cls := "WeighedGate", name := "isByte", desc := "(I)Z" } : Jvm.MethodName) prog_1_method_42_code (1 : Nat) (Option.some Jvm.ClassFile.FieldType.boolean)) ∈ xT0 := xTc3 81 rfl rfl
theorem q562 : (Jvm.Cond.methodLink "WeighedGateLaw" (41 : Nat) ({ cls := "WeighedGate", name := "text", desc := "()I" } : Jvm.MethodName)) ∈ xT0 := xTc3 82 rfl rfl
theorem q563 : (Jvm.Cond.instanceMethod ({ cls := "WeighedGate", name := "text", desc := "()I" } : Jvm.MethodName)) ∈ xT0 := xTc3 83 rfl rfl
theorem q564 : (Jvm.Cond.selects "WeighedGate" ({ cls := "WeighedGate", name := "text", desc := "()I" } : Jvm.MethodName) ({ cls := "WeighedGate", name := "text", desc := "()I" } : Jvm.MethodName)) ∈ xT0 := xTc3 84 rfl rfl
theorem q565 : (Jvm.Cond.code ({ cls := "WeighedGate", name := "text", desc := "()I" } : Jvm.MethodName) prog_1_method_8_code (2 : Nat) (Option.some Jvm.ClassFile.FieldType.int)) ∈ xT0 := xTc3 85 rfl rfl
theorem q566 : (Jvm.Cond.methodLink "WeighedGateLaw" (45 : Nat) ({ cls := "WeighedGate", name := "force", desc := "(I)I" } : Jvm.MethodName)) ∈ xT0 := xTc3 86 rfl rfl
theorem q567 : (Jvm.Cond.instanceMethod ({ cls := "WeighedGate", name := "force", desc := "(I)I" } : Jvm.MethodName)) ∈ xT0 := xTc3 87 rfl rfl
theorem q568 : (Jvm.Cond.selects "WeighedGate" ({ cls := "WeighedGate", name := "force", desc := "(I)I" } : Jvm.MethodName) ({ cls := "WeighedGate", name := "force", desc := "(I)I" } : Jvm.MethodName)) ∈ xT0 := xTc3 88 rfl rfl
theorem q569 : (Jvm.Cond.code ({ cls := "WeighedGate", name := "force", desc := "(I)I" } : Jvm.MethodName) prog_1_method_9_code (3 : Nat) (Option.some Jvm.ClassFile.FieldType.int)) ∈ xT0 := xTc3 89 rfl rfl
theorem q570 : (Jvm.Cond.methodLink "WeighedGateLaw" (49 : Nat) ({ cls := "WeighedGate", name := "asks", desc := "(IIII)I" } : Jvm.MethodName)) ∈ xT0 := xTc3 90 rfl rfl
theorem q571 : (Jvm.Cond.instanceMethod ({ cls := "WeighedGate", name := "asks", desc := "(IIII)I" } : Jvm.MethodName)) ∈ xT0 := xTc3 91 rfl rfl
theorem q572 : (Jvm.Cond.selects "WeighedGate" ({ cls := "WeighedGate", name := "asks", desc := "(IIII)I" } : Jvm.MethodName) ({ cls := "WeighedGate", name := "asks", desc := "(IIII)I" } : Jvm.MethodName)) ∈ xT0 := xTc3 92 rfl rfl
theorem q573 : (Jvm.Cond.code ({ cls := "WeighedGate", name := "asks", desc := "(IIII)I" } : Jvm.MethodName) prog_1_method_10_code (6 : Nat) (Option.some Jvm.ClassFile.FieldType.int)) ∈ xT0 := xTc3 93 rfl rfl
theorem q574 : (Jvm.Cond.constant "WeighedGate" (131 : Nat) (999999 : Int32)) ∈ xT0 := xTc3 94 rfl rfl
theorem q575 : (Jvm.Cond.methodLink "WeighedGate" (132 : Nat) ({ cls := "WeighedGate", name := "law", desc := "()LWeighedGate$Text;" } : Jvm.MethodName)) ∈ xT0 := xTc3 95 rfl rfl
theorem q577 : (Jvm.Cond.instanceMethod ({ cls := "WeighedGate", name := "law", desc := "()LWeighedGate$Text;" } : Jvm.MethodName)) ∈ xT0 := xTc3 97 rfl rfl
theorem q578 : (Jvm.Cond.code ({ cls := "WeighedGate", name := "law", desc := "()LWeighedGate$Text;" } : Jvm.MethodName) prog_1_method_49_code (1 : Nat) (Option.some (Jvm.ClassFile.FieldType.object "WeighedGate$Text"))) ∈ xT0 := xTc3 98 rfl rfl
theorem q579 : (Jvm.Cond.methodLink "WeighedGate" (136 : Nat) ({ cls := "WeighedGate$Text", name := "says", desc := "(I[I)I" } : Jvm.MethodName)) ∈ xT0 := xTc3 99 rfl rfl
theorem q580 : (Jvm.Cond.instanceMethod ({ cls := "WeighedGate$Text", name := "says", desc := "(I[I)I" } : Jvm.MethodName)) ∈ xT0 := xTc3 100 rfl rfl
theorem q581 : (Jvm.Cond.selects "WeighedGate$Text" ({ cls := "WeighedGate$Text", name := "says", desc := "(I[I)I" } : Jvm.MethodName) ({ cls := "WeighedGate$Text", name := "says", desc := "(I[I)I" } : Jvm.MethodName)) ∈ xT0 := xTc3 101 rfl rfl
theorem q582 : (Jvm.Cond.code ({ cls := "WeighedGate$Text", name := "says", desc := "(I[I)I" } : Jvm.MethodName) prog_9_method_4_code (6 : Nat) (Option.some Jvm.ClassFile.FieldType.int)) ∈ xT0 := xTc3 102 rfl rfl
theorem q583 : (Jvm.Cond.methodLink "WeighedGate$Text" (25 : Nat) ({ cls := "WeighedGate$Text", name := "joined", desc := "(III)I" } : Jvm.MethodName)) ∈ xT0 := xTc3 103 rfl rfl
theorem q584 : (Jvm.Cond.static ({ cls := "WeighedGate$Text", name := "joined", desc := "(III)I" } : Jvm.MethodName)) ∈ xT0 := xTc3 104 rfl rfl
theorem q585 : (Jvm.Cond.code ({ cls := "WeighedGate$Text", name := "joined", desc := "(III)I" } : Jvm.MethodName) prog_9_method_5_code (3 : Nat) (Option.some Jvm.ClassFile.FieldType.int)) ∈ xT0 := xTc3 105 rfl rfl
theorem q586 : (Jvm.Cond.methodLink "WeighedGate$Text" (29 : Nat) ({ cls := "java/lang/Math", name := "min", desc := "(II)I" } : Jvm.MethodName)) ∈ xT0 := xTc3 106 rfl rfl
theorem q587 : (Jvm.Cond.static ({ cls := "java/lang/Math", name := "min", desc := "(II)I" } : Jvm.MethodName)) ∈ xT0 := xTc3 107 rfl rfl
theorem q588 : (Jvm.Cond.code ({ cls := "java/lang/Math", name := "min", desc := "(II)I" } : Jvm.MethodName) prog_15_method_69_code (2 : Nat) (Option.some Jvm.ClassFile.FieldType.int)) ∈ xT0 := xTc3 108 rfl rfl
theorem q589 : (Jvm.Cond.methodLink "WeighedGate$Text" (35 : Nat) ({ cls := "java/lang/Math", name := "max", desc := "(II)I" } : Jvm.MethodName)) ∈ xT0 := xTc3 109 rfl rfl
theorem q590 : (Jvm.Cond.static ({ cls := "java/lang/Math", name := "max", desc := "(II)I" } : Jvm.MethodName)) ∈ xT0 := xTc3 110 rfl rfl
theorem q591 : (Jvm.Cond.code ({ cls := "java/lang/Math", name := "max", desc := "(II)I" } : Jvm.MethodName) prog_15_method_65_code (2 : Nat) (Option.some Jvm.ClassFile.FieldType.int)) ∈ xT0 := xTc3 111 rfl rfl
theorem q592 : (Jvm.Cond.methodLink "WeighedGateLaw" (54 : Nat) ({ cls := "WeighedGate", name := "cart", desc := "(IIIII)I" } : Jvm.MethodName)) ∈ xT0 := xTc3 112 rfl rfl
theorem q593 : (Jvm.Cond.instanceMethod ({ cls := "WeighedGate", name := "cart", desc := "(IIIII)I" } : Jvm.MethodName)) ∈ xT0 := xTc3 113 rfl rfl
theorem q594 : (Jvm.Cond.selects "WeighedGate" ({ cls := "WeighedGate", name := "cart", desc := "(IIIII)I" } : Jvm.MethodName) ({ cls := "WeighedGate", name := "cart", desc := "(IIIII)I" } : Jvm.MethodName)) ∈ xT0 := xTc3 114 rfl rfl
theorem q595 : (Jvm.Cond.code ({ cls := "WeighedGate", name := "cart", desc := "(IIIII)I" } : Jvm.MethodName) prog_1_method_11_code (9 : Nat) (Option.some Jvm.ClassFile.FieldType.int)) ∈ xT0 := xTc3 115 rfl rfl
theorem q596 : (Jvm.Cond.methodLink "WeighedGateLaw" (59 : Nat) ({ cls := "WeighedGate", name := "set", desc := "(III)I" } : Jvm.MethodName)) ∈ xT0 := xTc3 116 rfl rfl
theorem q597 : (Jvm.Cond.instanceMethod ({ cls := "WeighedGate", name := "set", desc := "(III)I" } : Jvm.MethodName)) ∈ xT0 := xTc3 117 rfl rfl
theorem q598 : (Jvm.Cond.selects "WeighedGate" ({ cls := "WeighedGate", name := "set", desc := "(III)I" } : Jvm.MethodName) ({ cls := "WeighedGate", name := "set", desc := "(III)I" } : Jvm.MethodName)) ∈ xT0 := xTc3 118 rfl rfl
theorem q599 : (Jvm.Cond.code ({ cls := "WeighedGate", name := "set", desc := "(III)I" } : Jvm.MethodName) prog_1_method_12_code (7 : Nat) (Option.some Jvm.ClassFile.FieldType.int)) ∈ xT0 := xTc3 119 rfl rfl
theorem q600 : (Jvm.Cond.methodLink "WeighedGate" (164 : Nat) ({ cls := "WeighedGate$Yard", name := "has", desc := "(I)Z" } : Jvm.MethodName)) ∈ xT0 := xTc3 120 rfl rfl
theorem q601 : (Jvm.Cond.instanceMethod ({ cls := "WeighedGate$Yard", name := "has", desc := "(I)Z" } : Jvm.MethodName)) ∈ xT0 := xTc3 121 rfl rfl
theorem q602 : (Jvm.Cond.selects "WeighedGate$Yard" ({ cls := "WeighedGate$Yard", name := "has", desc := "(I)Z" } : Jvm.MethodName) ({ cls := "WeighedGate$Yard", name := "has", desc := "(I)Z" } : Jvm.MethodName)) ∈ xT0 := xTc3 122 rfl rfl
theorem q603 : (Jvm.Cond.code ({ cls := "WeighedGate$Yard", name := "has", desc := "(I)Z" } : Jvm.MethodName) prog_11_method_2_code (2 : Nat) (Option.some Jvm.ClassFile.FieldType.boolean)) ∈ xT0 := xTc3 123 rfl rfl
theorem q604 : (Jvm.Cond.methodLink "WeighedGate" (167 : Nat) ({ cls := "WeighedGate", name := "isHour", desc := "(I)Z" } : Jvm.MethodName)) ∈ xT0 := xTc3 124 rfl rfl
theorem q605 : (Jvm.Cond.static ({ cls := "WeighedGate", name := "isHour", desc := "(I)Z" } : Jvm.MethodName)) ∈ xT0 := xTc3 125 rfl rfl
theorem q606 : (Jvm.Cond.code ({ cls := "WeighedGate", name := "isHour", desc := "(I)Z" } : Jvm.MethodName) prog_1_method_43_code (1 : Nat) (Option.some Jvm.ClassFile.FieldType.boolean)) ∈ xT0 := xTc3 126 rfl rfl
theorem q607 : (Jvm.Cond.methodLink "WeighedGate" (170 : Nat) ({ cls := "WeighedGate$Cart", name := "mayTurn", desc := "()Z" } : Jvm.MethodName)) ∈ xT0 := xTc3 127 rfl rfl
theorem q608 : (Jvm.Cond.instanceMethod ({ cls := "WeighedGate$Cart", name := "mayTurn", desc := "()Z" } : Jvm.MethodName)) ∈ xT0 := xTc3 128 rfl rfl
theorem q609 : (Jvm.Cond.selects "WeighedGate$Cart" ({ cls := "WeighedGate$Cart", name := "mayTurn", desc := "()Z" } : Jvm.MethodName) ({ cls := "WeighedGate$Cart", name := "mayTurn", desc := "()Z" } : Jvm.MethodName)) ∈ xT0 := xTc3 129 rfl rfl
theorem q610 : (Jvm.Cond.code ({ cls := "WeighedGate$Cart", name := "mayTurn", desc := "()Z" } : Jvm.MethodName) prog_2_method_5_code (1 : Nat) (Option.some Jvm.ClassFile.FieldType.boolean)) ∈ xT0 := xTc3 130 rfl rfl
theorem q611 : (Jvm.Cond.methodLink "WeighedGateLaw" (64 : Nat) ({ cls := "WeighedGate", name := "cartTold", desc := "(II)I" } : Jvm.MethodName)) ∈ xT0 := xTc3 131 rfl rfl
theorem q612 : (Jvm.Cond.instanceMethod ({ cls := "WeighedGate", name := "cartTold", desc := "(II)I" } : Jvm.MethodName)) ∈ xT0 := xTc3 132 rfl rfl
theorem q613 : (Jvm.Cond.selects "WeighedGate" ({ cls := "WeighedGate", name := "cartTold", desc := "(II)I" } : Jvm.MethodName) ({ cls := "WeighedGate", name := "cartTold", desc := "(II)I" } : Jvm.MethodName)) ∈ xT0 := xTc3 133 rfl rfl
theorem q614 : (Jvm.Cond.code ({ cls := "WeighedGate", name := "cartTold", desc := "(II)I" } : Jvm.MethodName) prog_1_method_13_code (4 : Nat) (Option.some Jvm.ClassFile.FieldType.int)) ∈ xT0 := xTc3 134 rfl rfl
theorem q615 : (Jvm.Cond.methodLink "WeighedGateLaw" (68 : Nat) ({ cls := "WeighedGate", name := "at", desc := "(III)I" } : Jvm.MethodName)) ∈ xT0 := xTc3 135 rfl rfl
theorem q616 : (Jvm.Cond.instanceMethod ({ cls := "WeighedGate", name := "at", desc := "(III)I" } : Jvm.MethodName)) ∈ xT0 := xTc3 136 rfl rfl
theorem q617 : (Jvm.Cond.selects "WeighedGate" ({ cls := "WeighedGate", name := "at", desc := "(III)I" } : Jvm.MethodName) ({ cls := "WeighedGate", name := "at", desc := "(III)I" } : Jvm.MethodName)) ∈ xT0 := xTc3 137 rfl rfl
theorem q618 : (Jvm.Cond.code ({ cls := "WeighedGate", name := "at", desc := "(III)I" } : Jvm.MethodName) prog_1_method_14_code (6 : Nat) (Option.some Jvm.ClassFile.FieldType.int)) ∈ xT0 := xTc3 138 rfl rfl
theorem q619 : (Jvm.Cond.methodLink "WeighedGate" (174 : Nat) ({ cls := "WeighedGate", name := "waited", desc := "(II)I" } : Jvm.MethodName)) ∈ xT0 := xTc3 139 rfl rfl
theorem q620 : (Jvm.Cond.static ({ cls := "WeighedGate", name := "waited", desc := "(II)I" } : Jvm.MethodName)) ∈ xT0 := xTc3 140 rfl rfl
theorem q621 : (Jvm.Cond.code ({ cls := "WeighedGate", name := "waited", desc := "(II)I" } : Jvm.MethodName) prog_1_method_47_code (2 : Nat) (Option.some Jvm.ClassFile.FieldType.int)) ∈ xT0 := xTc3 141 rfl rfl
theorem q622 : (Jvm.Cond.methodLink "WeighedGate" (372 : Nat) ({ cls := "java/lang/Math", name := "max", desc := "(II)I" } : Jvm.MethodName)) ∈ xT0 := xTc3 142 rfl rfl
theorem q623 : (Jvm.Cond.methodLink "WeighedGate" (178 : Nat) ({ cls := "WeighedGate$Cart", name := "weighs", desc := "(I)I" } : Jvm.MethodName)) ∈ xT0 := xTc3 143 rfl rfl
theorem q624 : (Jvm.Cond.instanceMethod ({ cls := "WeighedGate$Cart", name := "weighs", desc := "(I)I" } : Jvm.MethodName)) ∈ xT0 := xTc3 144 rfl rfl
theorem q625 : (Jvm.Cond.selects "WeighedGate$Cart" ({ cls := "WeighedGate$Cart", name := "weighs", desc := "(I)I" } : Jvm.MethodName) ({ cls := "WeighedGate$Cart", name := "weighs", desc := "(I)I" } : Jvm.MethodName)) ∈ xT0 := xTc3 145 rfl rfl
theorem q626 : (Jvm.Cond.code ({ cls := "WeighedGate$Cart", name := "weighs", desc := "(I)I" } : Jvm.MethodName) prog_2_method_2_code (2 : Nat) (Option.some Jvm.ClassFile.FieldType.int)) ∈ xT0 := xTc3 146 rfl rfl
theorem q627 : (Jvm.Cond.methodLink "WeighedGate$Cart" (21 : Nat) ({ cls := "java/lang/Math", name := "max", desc := "(II)I" } : Jvm.MethodName)) ∈ xT0 := xTc3 147 rfl rfl
theorem q628 : (Jvm.Cond.methodLink "WeighedGate" (182 : Nat) ({ cls := "WeighedGate$Cart", name := "worth", desc := "(I)I" } : Jvm.MethodName)) ∈ xT0 := xTc3 148 rfl rfl
theorem q629 : (Jvm.Cond.instanceMethod ({ cls := "WeighedGate$Cart", name := "worth", desc := "(I)I" } : Jvm.MethodName)) ∈ xT0 := xTc3 149 rfl rfl
theorem q630 : (Jvm.Cond.selects "WeighedGate$Cart" ({ cls := "WeighedGate$Cart", name := "worth", desc := "(I)I" } : Jvm.MethodName) ({ cls := "WeighedGate$Cart", name := "worth", desc := "(I)I" } : Jvm.MethodName)) ∈ xT0 := xTc3 150 rfl rfl
theorem q631 : (Jvm.Cond.code ({ cls := "WeighedGate$Cart", name := "worth", desc := "(I)I" } : Jvm.MethodName) prog_2_method_3_code (2 : Nat) (Option.some Jvm.ClassFile.FieldType.int)) ∈ xT0 := xTc3 151 rfl rfl
theorem q632 : (Jvm.Cond.methodLink "WeighedGate$Cart" (27 : Nat) ({ cls := "WeighedGate$Cart", name := "spoiled", desc := "(I)I" } : Jvm.MethodName)) ∈ xT0 := xTc3 152 rfl rfl
theorem q634 : (Jvm.Cond.instanceMethod ({ cls := "WeighedGate$Cart", name := "spoiled", desc := "(I)I" } : Jvm.MethodName)) ∈ xT0 := xTc3 154 rfl rfl
theorem q635 : (Jvm.Cond.code ({ cls := "WeighedGate$Cart", name := "spoiled", desc := "(I)I" } : Jvm.MethodName) prog_2_method_4_code (2 : Nat) (Option.some Jvm.ClassFile.FieldType.int)) ∈ xT0 := xTc3 155 rfl rfl
theorem q636 : (Jvm.Cond.methodLink "WeighedGateLaw" (72 : Nat) ({ cls := "WeighedGate", name := "make", desc := "(I)I" } : Jvm.MethodName)) ∈ xT0 := xTc3 156 rfl rfl
theorem q637 : (Jvm.Cond.instanceMethod ({ cls := "WeighedGate", name := "make", desc := "(I)I" } : Jvm.MethodName)) ∈ xT0 := xTc3 157 rfl rfl
theorem q638 : (Jvm.Cond.selects "WeighedGate" ({ cls := "WeighedGate", name := "make", desc := "(I)I" } : Jvm.MethodName) ({ cls := "WeighedGate", name := "make", desc := "(I)I" } : Jvm.MethodName)) ∈ xT0 := xTc3 158 rfl rfl
theorem q639 : (Jvm.Cond.code ({ cls := "WeighedGate", name := "make", desc := "(I)I" } : Jvm.MethodName) prog_1_method_15_code (2 : Nat) (Option.some Jvm.ClassFile.FieldType.int)) ∈ xT0 := xTc3 159 rfl rfl
theorem q640 : (Jvm.Cond.methodLink "WeighedGate" (185 : Nat) ({ cls := "WeighedGate", name := "isDifference", desc := "(I)Z" } : Jvm.MethodName)) ∈ xT0 := xTc3 160 rfl rfl
theorem q641 : (Jvm.Cond.static ({ cls := "WeighedGate", name := "isDifference", desc := "(I)Z" } : Jvm.MethodName)) ∈ xT0 := xTc3 161 rfl rfl
theorem q642 : (Jvm.Cond.code ({ cls := "WeighedGate", name := "isDifference", desc := "(I)Z" } : Jvm.MethodName) prog_1_method_44_code (1 : Nat) (Option.some Jvm.ClassFile.FieldType.boolean)) ∈ xT0 := xTc3 162 rfl rfl
theorem q643 : (Jvm.Cond.methodLink "WeighedGate" (188 : Nat) ({ cls := "WeighedGate$Scale", name := "fewestFor", desc := "(I)I" } : Jvm.MethodName)) ∈ xT0 := xTc3 163 rfl rfl
theorem q644 : (Jvm.Cond.instanceMethod ({ cls := "WeighedGate$Scale", name := "fewestFor", desc := "(I)I" } : Jvm.MethodName)) ∈ xT0 := xTc3 164 rfl rfl
theorem q645 : (Jvm.Cond.selects "WeighedGate$Scale" ({ cls := "WeighedGate$Scale", name := "fewestFor", desc := "(I)I" } : Jvm.MethodName) ({ cls := "WeighedGate$Scale", name := "fewestFor", desc := "(I)I" } : Jvm.MethodName)) ∈ xT0 := xTc3 165 rfl rfl
theorem q646 : (Jvm.Cond.code ({ cls := "WeighedGate$Scale", name := "fewestFor", desc := "(I)I" } : Jvm.MethodName) prog_7_method_4_code (2 : Nat) (Option.some Jvm.ClassFile.FieldType.int)) ∈ xT0 := xTc3 166 rfl rfl
theorem q647 : (Jvm.Cond.methodLink "WeighedGateLaw" (76 : Nat) ({ cls := "WeighedGate", name := "makings", desc := "(II)I" } : Jvm.MethodName)) ∈ xT0 := xTc3 167 rfl rfl
theorem q648 : (Jvm.Cond.instanceMethod ({ cls := "WeighedGate", name := "makings", desc := "(II)I" } : Jvm.MethodName)) ∈ xT0 := xTc3 168 rfl rfl
theorem q649 : (Jvm.Cond.selects "WeighedGate" ({ cls := "WeighedGate", name := "makings", desc := "(II)I" } : Jvm.MethodName) ({ cls := "WeighedGate", name := "makings", desc := "(II)I" } : Jvm.MethodName)) ∈ xT0 := xTc3 169 rfl rfl
theorem q650 : (Jvm.Cond.code ({ cls := "WeighedGate", name := "makings", desc := "(II)I" } : Jvm.MethodName) prog_1_method_16_code (6 : Nat) (Option.some Jvm.ClassFile.FieldType.int)) ∈ xT0 := xTc3 170 rfl rfl
theorem q651 : (Jvm.Cond.methodLink "WeighedGate" (191 : Nat) ({ cls := "WeighedGate$Scale", name := "makes", desc := "(I)Z" } : Jvm.MethodName)) ∈ xT0 := xTc3 171 rfl rfl
theorem q652 : (Jvm.Cond.instanceMethod ({ cls := "WeighedGate$Scale", name := "makes", desc := "(I)Z" } : Jvm.MethodName)) ∈ xT0 := xTc3 172 rfl rfl
theorem q653 : (Jvm.Cond.selects "WeighedGate$Scale" ({ cls := "WeighedGate$Scale", name := "makes", desc := "(I)Z" } : Jvm.MethodName) ({ cls := "WeighedGate$Scale", name := "makes", desc := "(I)Z" } : Jvm.MethodName)) ∈ xT0 := xTc3 173 rfl rfl
theorem q654 : (Jvm.Cond.code ({ cls := "WeighedGate$Scale", name := "makes", desc := "(I)Z" } : Jvm.MethodName) prog_7_method_5_code (2 : Nat) (Option.some Jvm.ClassFile.FieldType.boolean)) ∈ xT0 := xTc3 174 rfl rfl
theorem q655 : (Jvm.Cond.methodLink "WeighedGate$Scale" (38 : Nat) ({ cls := "WeighedGate$Scale", name := "fewestFor", desc := "(I)I" } : Jvm.MethodName)) ∈ xT0 := xTc3 175 rfl rfl
theorem q656 : (Jvm.Cond.methodLink "WeighedGateLaw" (80 : Nat) ({ cls := "WeighedGate", name := "own", desc := "(II)I" } : Jvm.MethodName)) ∈ xT0 := xTc3 176 rfl rfl
theorem q657 : (Jvm.Cond.instanceMethod ({ cls := "WeighedGate", name := "own", desc := "(II)I" } : Jvm.MethodName)) ∈ xT0 := xTc3 177 rfl rfl
theorem q658 : (Jvm.Cond.selects "WeighedGate" ({ cls := "WeighedGate", name := "own", desc := "(II)I" } : Jvm.MethodName) ({ cls := "WeighedGate", name := "own", desc := "(II)I" } : Jvm.MethodName)) ∈ xT0 := xTc3 178 rfl rfl
theorem q659 : (Jvm.Cond.code ({ cls := "WeighedGate", name := "own", desc := "(II)I" } : Jvm.MethodName) prog_1_method_17_code (7 : Nat) (Option.some Jvm.ClassFile.FieldType.int)) ∈ xT0 := xTc3 179 rfl rfl
theorem q660 : (Jvm.Cond.methodLink "WeighedGate" (194 : Nat) ({ cls := "WeighedGate$Scale", name := "madeWith", desc := "(II)I" } : Jvm.MethodName)) ∈ xT0 := xTc3 180 rfl rfl
theorem q661 : (Jvm.Cond.instanceMethod ({ cls := "WeighedGate$Scale", name := "madeWith", desc := "(II)I" } : Jvm.MethodName)) ∈ xT0 := xTc3 181 rfl rfl
theorem q662 : (Jvm.Cond.selects "WeighedGate$Scale" ({ cls := "WeighedGate$Scale", name := "madeWith", desc := "(II)I" } : Jvm.MethodName) ({ cls := "WeighedGate$Scale", name := "madeWith", desc := "(II)I" } : Jvm.MethodName)) ∈ xT0 := xTc3 182 rfl rfl
theorem q663 : (Jvm.Cond.code ({ cls := "WeighedGate$Scale", name := "madeWith", desc := "(II)I" } : Jvm.MethodName) prog_7_method_6_code (5 : Nat) (Option.some Jvm.ClassFile.FieldType.int)) ∈ xT0 := xTc3 183 rfl rfl
theorem q664 : (Jvm.Cond.methodLink "WeighedGate$Scale" (41 : Nat) ({ cls := "WeighedGate$Scale", name := "makes", desc := "(I)Z" } : Jvm.MethodName)) ∈ xT0 := xTc3 184 rfl rfl
theorem q665 : (Jvm.Cond.methodLink "WeighedGateLaw" (84 : Nat) ({ cls := "WeighedGate", name := "falsely", desc := "(I)I" } : Jvm.MethodName)) ∈ xT0 := xTc3 185 rfl rfl
theorem q666 : (Jvm.Cond.instanceMethod ({ cls := "WeighedGate", name := "falsely", desc := "(I)I" } : Jvm.MethodName)) ∈ xT0 := xTc3 186 rfl rfl
theorem q667 : (Jvm.Cond.selects "WeighedGate" ({ cls := "WeighedGate", name := "falsely", desc := "(I)I" } : Jvm.MethodName) ({ cls := "WeighedGate", name := "falsely", desc := "(I)I" } : Jvm.MethodName)) ∈ xT0 := xTc3 187 rfl rfl
theorem q668 : (Jvm.Cond.code ({ cls := "WeighedGate", name := "falsely", desc := "(I)I" } : Jvm.MethodName) prog_1_method_18_code (2 : Nat) (Option.some Jvm.ClassFile.FieldType.int)) ∈ xT0 := xTc3 188 rfl rfl
theorem q669 : (Jvm.Cond.methodLink "WeighedGate" (197 : Nat) ({ cls := "WeighedGate$Scale", name := "heavierFor", desc := "(I)I" } : Jvm.MethodName)) ∈ xT0 := xTc3 189 rfl rfl
theorem q670 : (Jvm.Cond.instanceMethod ({ cls := "WeighedGate$Scale", name := "heavierFor", desc := "(I)I" } : Jvm.MethodName)) ∈ xT0 := xTc3 190 rfl rfl
theorem q671 : (Jvm.Cond.selects "WeighedGate$Scale" ({ cls := "WeighedGate$Scale", name := "heavierFor", desc := "(I)I" } : Jvm.MethodName) ({ cls := "WeighedGate$Scale", name := "heavierFor", desc := "(I)I" } : Jvm.MethodName)) ∈ xT0 := xTc3 191 rfl rfl
theorem q672 : (Jvm.Cond.code ({ cls := "WeighedGate$Scale", name := "heavierFor", desc := "(I)I" } : Jvm.MethodName) prog_7_method_7_code (4 : Nat) (Option.some Jvm.ClassFile.FieldType.int)) ∈ xT0 := xTc3 192 rfl rfl
theorem q673 : (Jvm.Cond.methodLink "WeighedGate$Scale" (45 : Nat) ({ cls := "WeighedGate$Scale", name := "reaches", desc := "(III)Z" } : Jvm.MethodName)) ∈ xT0 := xTc3 193 rfl rfl
theorem q675 : (Jvm.Cond.instanceMethod ({ cls := "WeighedGate$Scale", name := "reaches", desc := "(III)Z" } : Jvm.MethodName)) ∈ xT0 := xTc3 195 rfl rfl
theorem q676 : (Jvm.Cond.code ({ cls := "WeighedGate$Scale", name := "reaches", desc := "(III)Z" } : Jvm.MethodName) prog_7_method_8_code (5 : Nat) (Option.some Jvm.ClassFile.FieldType.boolean)) ∈ xT0 := xTc3 196 rfl rfl
theorem q677 : (Jvm.Cond.methodLink "WeighedGateLaw" (88 : Nat) ({ cls := "WeighedGate", name := "scales", desc := "(III)I" } : Jvm.MethodName)) ∈ xT0 := xTc3 197 rfl rfl
theorem q678 : (Jvm.Cond.instanceMethod ({ cls := "WeighedGate", name := "scales", desc := "(III)I" } : Jvm.MethodName)) ∈ xT0 := xTc3 198 rfl rfl
theorem q679 : (Jvm.Cond.selects "WeighedGate" ({ cls := "WeighedGate", name := "scales", desc := "(III)I" } : Jvm.MethodName) ({ cls := "WeighedGate", name := "scales", desc := "(III)I" } : Jvm.MethodName)) ∈ xT0 := xTc3 199 rfl rfl
theorem q680 : (Jvm.Cond.code ({ cls := "WeighedGate", name := "scales", desc := "(III)I" } : Jvm.MethodName) prog_1_method_19_code (4 : Nat) (Option.some Jvm.ClassFile.FieldType.int)) ∈ xT0 := xTc3 200 rfl rfl
theorem q681 : (Jvm.Cond.methodLink "WeighedGate" (200 : Nat) ({ cls := "WeighedGate$Yard", name := "hasAll", desc := "(I)Z" } : Jvm.MethodName)) ∈ xT0 := xTc3 201 rfl rfl
theorem q682 : (Jvm.Cond.instanceMethod ({ cls := "WeighedGate$Yard", name := "hasAll", desc := "(I)Z" } : Jvm.MethodName)) ∈ xT0 := xTc3 202 rfl rfl
theorem q683 : (Jvm.Cond.selects "WeighedGate$Yard" ({ cls := "WeighedGate$Yard", name := "hasAll", desc := "(I)Z" } : Jvm.MethodName) ({ cls := "WeighedGate$Yard", name := "hasAll", desc := "(I)Z" } : Jvm.MethodName)) ∈ xT0 := xTc3 203 rfl rfl
theorem q684 : (Jvm.Cond.code ({ cls := "WeighedGate$Yard", name := "hasAll", desc := "(I)Z" } : Jvm.MethodName) prog_11_method_4_code (2 : Nat) (Option.some Jvm.ClassFile.FieldType.boolean)) ∈ xT0 := xTc3 204 rfl rfl
theorem q685 : (Jvm.Cond.methodLink "WeighedGate$Yard" (26 : Nat) ({ cls := "WeighedGate$Yard", name := "all", desc := "()I" } : Jvm.MethodName)) ∈ xT0 := xTc3 205 rfl rfl
theorem q686 : (Jvm.Cond.instanceMethod ({ cls := "WeighedGate$Yard", name := "all", desc := "()I" } : Jvm.MethodName)) ∈ xT0 := xTc3 206 rfl rfl
theorem q687 : (Jvm.Cond.selects "WeighedGate$Yard" ({ cls := "WeighedGate$Yard", name := "all", desc := "()I" } : Jvm.MethodName) ({ cls := "WeighedGate$Yard", name := "all", desc := "()I" } : Jvm.MethodName)) ∈ xT0 := xTc3 207 rfl rfl
theorem q688 : (Jvm.Cond.code ({ cls := "WeighedGate$Yard", name := "all", desc := "()I" } : Jvm.MethodName) prog_11_method_3_code (1 : Nat) (Option.some Jvm.ClassFile.FieldType.int)) ∈ xT0 := xTc3 208 rfl rfl
theorem q689 : (Jvm.Cond.methodLink "WeighedGate" (203 : Nat) ({ cls := "WeighedGate$Weighing", name := "prepare", desc := "(I[I)V" } : Jvm.MethodName)) ∈ xT0 := xTc3 209 rfl rfl
theorem q690 : (Jvm.Cond.instanceMethod ({ cls := "WeighedGate$Weighing", name := "prepare", desc := "(I[I)V" } : Jvm.MethodName)) ∈ xT0 := xTc3 210 rfl rfl
theorem q691 : (Jvm.Cond.selects "WeighedGate$Weighing" ({ cls := "WeighedGate$Weighing", name := "prepare", desc := "(I[I)V" } : Jvm.MethodName) ({ cls := "WeighedGate$Weighing", name := "prepare", desc := "(I[I)V" } : Jvm.MethodName)) ∈ xT0 := xTc3 211 rfl rfl
theorem q692 : (Jvm.Cond.code ({ cls := "WeighedGate$Weighing", name := "prepare", desc := "(I[I)V" } : Jvm.MethodName) prog_10_method_2_code (6 : Nat) (Option.none : Option Jvm.ClassFile.FieldType)) ∈ xT0 := xTc3 212 rfl rfl
theorem q694 : (Jvm.Cond.methodLink "WeighedGate$Weighing" (49 : Nat) ({ cls := "WeighedGate$Cart", name := "weighs", desc := "(I)I" } : Jvm.MethodName)) ∈ xT0 := xTc3 214 rfl rfl
theorem q695 : (Jvm.Cond.methodLink "WeighedGate$Weighing" (55 : Nat) ({ cls := "WeighedGate$Cart", name := "worth", desc := "(I)I" } : Jvm.MethodName)) ∈ xT0 := xTc3 215 rfl rfl
theorem q696 : (Jvm.Cond.methodLink "WeighedGate" (207 : Nat) ({ cls := "WeighedGate$Weighing", name := "weigh", desc := "(I)V" } : Jvm.MethodName)) ∈ xT0 := xTc3 216 rfl rfl
theorem q697 : (Jvm.Cond.instanceMethod ({ cls := "WeighedGate$Weighing", name := "weigh", desc := "(I)V" } : Jvm.MethodName)) ∈ xT0 := xTc3 217 rfl rfl
theorem q698 : (Jvm.Cond.selects "WeighedGate$Weighing" ({ cls := "WeighedGate$Weighing", name := "weigh", desc := "(I)V" } : Jvm.MethodName) ({ cls := "WeighedGate$Weighing", name := "weigh", desc := "(I)V" } : Jvm.MethodName)) ∈ xT0 := xTc3 218 rfl rfl
theorem q699 : (Jvm.Cond.code ({ cls := "WeighedGate$Weighing", name := "weigh", desc := "(I)V" } : Jvm.MethodName) prog_10_method_6_code (3 : Nat) (Option.none : Option Jvm.ClassFile.FieldType)) ∈ xT0 := xTc3 219 rfl rfl
theorem q700 : (Jvm.Cond.methodLink "WeighedGate$Weighing" (62 : Nat) ({ cls := "WeighedGate$Weighing", name := "worthOf", desc := "(I)I" } : Jvm.MethodName)) ∈ xT0 := xTc3 220 rfl rfl
theorem q702 : (Jvm.Cond.instanceMethod ({ cls := "WeighedGate$Weighing", name := "worthOf", desc := "(I)I" } : Jvm.MethodName)) ∈ xT0 := xTc3 222 rfl rfl
theorem q703 : (Jvm.Cond.code ({ cls := "WeighedGate$Weighing", name := "worthOf", desc := "(I)I" } : Jvm.MethodName) prog_10_method_5_code (4 : Nat) (Option.some Jvm.ClassFile.FieldType.int)) ∈ xT0 := xTc3 223 rfl rfl
theorem q704 : (Jvm.Cond.methodLink "WeighedGate$Weighing" (67 : Nat) ({ cls := "WeighedGate$Weighing", name := "weightOf", desc := "(I)I" } : Jvm.MethodName)) ∈ xT0 := xTc3 224 rfl rfl
theorem q705 : (Jvm.Cond.instanceMethod ({ cls := "WeighedGate$Weighing", name := "weightOf", desc := "(I)I" } : Jvm.MethodName)) ∈ xT0 := xTc3 225 rfl rfl
theorem q706 : (Jvm.Cond.selects "WeighedGate$Weighing" ({ cls := "WeighedGate$Weighing", name := "weightOf", desc := "(I)I" } : Jvm.MethodName) ({ cls := "WeighedGate$Weighing", name := "weightOf", desc := "(I)I" } : Jvm.MethodName)) ∈ xT0 := xTc3 226 rfl rfl
theorem q707 : (Jvm.Cond.code ({ cls := "WeighedGate$Weighing", name := "weightOf", desc := "(I)I" } : Jvm.MethodName) prog_10_method_4_code (4 : Nat) (Option.some Jvm.ClassFile.FieldType.int)) ∈ xT0 := xTc3 227 rfl rfl
theorem q708 : (Jvm.Cond.methodLink "WeighedGate$Weighing" (81 : Nat) ({ cls := "java/lang/Math", name := "abs", desc := "(I)I" } : Jvm.MethodName)) ∈ xT0 := xTc3 228 rfl rfl
theorem q709 : (Jvm.Cond.methodLink "WeighedGate$Weighing" (86 : Nat) ({ cls := "WeighedGate$Scale", name := "offOf", desc := "(I)I" } : Jvm.MethodName)) ∈ xT0 := xTc3 229 rfl rfl
theorem q710 : (Jvm.Cond.instanceMethod ({ cls := "WeighedGate$Scale", name := "offOf", desc := "(I)I" } : Jvm.MethodName)) ∈ xT0 := xTc3 230 rfl rfl
theorem q711 : (Jvm.Cond.selects "WeighedGate$Scale" ({ cls := "WeighedGate$Scale", name := "offOf", desc := "(I)I" } : Jvm.MethodName) ({ cls := "WeighedGate$Scale", name := "offOf", desc := "(I)I" } : Jvm.MethodName)) ∈ xT0 := xTc3 231 rfl rfl
theorem q712 : (Jvm.Cond.code ({ cls := "WeighedGate$Scale", name := "offOf", desc := "(I)I" } : Jvm.MethodName) prog_7_method_9_code (3 : Nat) (Option.some Jvm.ClassFile.FieldType.int)) ∈ xT0 := xTc3 232 rfl rfl
theorem q713 : (Jvm.Cond.methodLink "WeighedGate$Weighing" (92 : Nat) ({ cls := "WeighedGate$Scale", name := "stonesFor", desc := "(II)I" } : Jvm.MethodName)) ∈ xT0 := xTc3 233 rfl rfl
theorem q714 : (Jvm.Cond.instanceMethod ({ cls := "WeighedGate$Scale", name := "stonesFor", desc := "(II)I" } : Jvm.MethodName)) ∈ xT0 := xTc3 234 rfl rfl
theorem q715 : (Jvm.Cond.selects "WeighedGate$Scale" ({ cls := "WeighedGate$Scale", name := "stonesFor", desc := "(II)I" } : Jvm.MethodName) ({ cls := "WeighedGate$Scale", name := "stonesFor", desc := "(II)I" } : Jvm.MethodName)) ∈ xT0 := xTc3 235 rfl rfl
theorem q716 : (Jvm.Cond.code ({ cls := "WeighedGate$Scale", name := "stonesFor", desc := "(II)I" } : Jvm.MethodName) prog_7_method_10_code (5 : Nat) (Option.some Jvm.ClassFile.FieldType.int)) ∈ xT0 := xTc3 236 rfl rfl
theorem q717 : (Jvm.Cond.methodLink "WeighedGate$Scale" (49 : Nat) ({ cls := "java/lang/Math", name := "max", desc := "(II)I" } : Jvm.MethodName)) ∈ xT0 := xTc3 237 rfl rfl
theorem q718 : (Jvm.Cond.methodLink "WeighedGate$Scale" (53 : Nat) ({ cls := "java/lang/Math", name := "min", desc := "(II)I" } : Jvm.MethodName)) ∈ xT0 := xTc3 238 rfl rfl
theorem q719 : (Jvm.Cond.methodLink "WeighedGate$Weighing" (98 : Nat) ({ cls := "java/lang/Integer", name := "bitCount", desc := "(I)I" } : Jvm.MethodName)) ∈ xT0 := xTc3 239 rfl rfl
theorem q720 : (Jvm.Cond.static ({ cls := "java/lang/Integer", name := "bitCount", desc := "(I)I" } : Jvm.MethodName)) ∈ xT0 := xTc4 0 rfl rfl
theorem q721 : (Jvm.Cond.code ({ cls := "java/lang/Integer", name := "bitCount", desc := "(I)I" } : Jvm.MethodName) prog_14_method_49_code (1 : Nat) (Option.some Jvm.ClassFile.FieldType.int)) ∈ xT0 := xTc4 1 rfl rfl
theorem q722 : (Jvm.Cond.constant "java/lang/Integer" (265 : Nat) (1431655765 : Int32)) ∈ xT0 := xTc4 2 rfl rfl
theorem q723 : (Jvm.Cond.constant "java/lang/Integer" (266 : Nat) (858993459 : Int32)) ∈ xT0 := xTc4 3 rfl rfl
theorem q724 : (Jvm.Cond.constant "java/lang/Integer" (267 : Nat) (252645135 : Int32)) ∈ xT0 := xTc4 4 rfl rfl
theorem q725 : (Jvm.Cond.methodLink "WeighedGate" (210 : Nat) ({ cls := "WeighedGate$Weighing", name := "mayBe", desc := "(LWeighedGate$Text;)Z" } : Jvm.MethodName)) ∈ xT0 := xTc4 5 rfl rfl
theorem q726 : (Jvm.Cond.instanceMethod ({ cls := "WeighedGate$Weighing", name := "mayBe", desc := "(LWeighedGate$Text;)Z" } : Jvm.MethodName)) ∈ xT0 := xTc4 6 rfl rfl
theorem q727 : (Jvm.Cond.selects "WeighedGate$Weighing" ({ cls := "WeighedGate$Weighing", name := "mayBe", desc := "(LWeighedGate$Text;)Z" } : Jvm.MethodName) ({ cls := "WeighedGate$Weighing", name := "mayBe", desc := "(LWeighedGate$Text;)Z" } : Jvm.MethodName)) ∈ xT0 := xTc4 7 rfl rfl
theorem q728 : (Jvm.Cond.code ({ cls := "WeighedGate$Weighing", name := "mayBe", desc := "(LWeighedGate$Text;)Z" } : Jvm.MethodName) prog_10_method_8_code (2 : Nat) (Option.some Jvm.ClassFile.FieldType.boolean)) ∈ xT0 := xTc4 8 rfl rfl
theorem q729 : (Jvm.Cond.methodLink "WeighedGate$Weighing" (107 : Nat) ({ cls := "WeighedGate$Weighing", name := "fillsPans", desc := "(I)Z" } : Jvm.MethodName)) ∈ xT0 := xTc4 9 rfl rfl
theorem q731 : (Jvm.Cond.instanceMethod ({ cls := "WeighedGate$Weighing", name := "fillsPans", desc := "(I)Z" } : Jvm.MethodName)) ∈ xT0 := xTc4 11 rfl rfl
theorem q732 : (Jvm.Cond.code ({ cls := "WeighedGate$Weighing", name := "fillsPans", desc := "(I)Z" } : Jvm.MethodName) prog_10_method_7_code (2 : Nat) (Option.some Jvm.ClassFile.FieldType.boolean)) ∈ xT0 := xTc4 12 rfl rfl
theorem q734 : (Jvm.Cond.methodLink "WeighedGate$Weighing" (111 : Nat) ({ cls := "WeighedGate$Text", name := "says", desc := "(I[I)I" } : Jvm.MethodName)) ∈ xT0 := xTc4 14 rfl rfl
theorem q735 : (Jvm.Cond.methodLink "WeighedGate" (225 : Nat) ({ cls := "WeighedGate$Weighing", name := "brings", desc := "(LWeighedGate$Text;)I" } : Jvm.MethodName)) ∈ xT0 := xTc4 15 rfl rfl
theorem q736 : (Jvm.Cond.instanceMethod ({ cls := "WeighedGate$Weighing", name := "brings", desc := "(LWeighedGate$Text;)I" } : Jvm.MethodName)) ∈ xT0 := xTc4 16 rfl rfl
theorem q737 : (Jvm.Cond.selects "WeighedGate$Weighing" ({ cls := "WeighedGate$Weighing", name := "brings", desc := "(LWeighedGate$Text;)I" } : Jvm.MethodName) ({ cls := "WeighedGate$Weighing", name := "brings", desc := "(LWeighedGate$Text;)I" } : Jvm.MethodName)) ∈ xT0 := xTc4 17 rfl rfl
theorem q738 : (Jvm.Cond.code ({ cls := "WeighedGate$Weighing", name := "brings", desc := "(LWeighedGate$Text;)I" } : Jvm.MethodName) prog_10_method_9_code (2 : Nat) (Option.some Jvm.ClassFile.FieldType.int)) ∈ xT0 := xTc4 18 rfl rfl
theorem q739 : (Jvm.Cond.methodLink "WeighedGateLaw" (92 : Nat) ({ cls := "WeighedGate", name := "pairs", desc := "(II)I" } : Jvm.MethodName)) ∈ xT0 := xTc4 19 rfl rfl
theorem q740 : (Jvm.Cond.instanceMethod ({ cls := "WeighedGate", name := "pairs", desc := "(II)I" } : Jvm.MethodName)) ∈ xT0 := xTc4 20 rfl rfl
theorem q741 : (Jvm.Cond.selects "WeighedGate" ({ cls := "WeighedGate", name := "pairs", desc := "(II)I" } : Jvm.MethodName) ({ cls := "WeighedGate", name := "pairs", desc := "(II)I" } : Jvm.MethodName)) ∈ xT0 := xTc4 21 rfl rfl
theorem q742 : (Jvm.Cond.code ({ cls := "WeighedGate", name := "pairs", desc := "(II)I" } : Jvm.MethodName) prog_1_method_20_code (3 : Nat) (Option.some Jvm.ClassFile.FieldType.int)) ∈ xT0 := xTc4 22 rfl rfl
theorem q743 : (Jvm.Cond.methodLink "WeighedGate" (228 : Nat) ({ cls := "WeighedGate$Pairs", name := "prepare", desc := "(ILWeighedGate$Text;)V" } : Jvm.MethodName)) ∈ xT0 := xTc4 23 rfl rfl
theorem q744 : (Jvm.Cond.instanceMethod ({ cls := "WeighedGate$Pairs", name := "prepare", desc := "(ILWeighedGate$Text;)V" } : Jvm.MethodName)) ∈ xT0 := xTc4 24 rfl rfl
theorem q745 : (Jvm.Cond.selects "WeighedGate$Pairs" ({ cls := "WeighedGate$Pairs", name := "prepare", desc := "(ILWeighedGate$Text;)V" } : Jvm.MethodName) ({ cls := "WeighedGate$Pairs", name := "prepare", desc := "(ILWeighedGate$Text;)V" } : Jvm.MethodName)) ∈ xT0 := xTc4 25 rfl rfl
theorem q746 : (Jvm.Cond.code ({ cls := "WeighedGate$Pairs", name := "prepare", desc := "(ILWeighedGate$Text;)V" } : Jvm.MethodName) prog_5_method_2_code (5 : Nat) (Option.none : Option Jvm.ClassFile.FieldType)) ∈ xT0 := xTc4 26 rfl rfl
theorem q747 : (Jvm.Cond.methodLink "WeighedGate$Pairs" (31 : Nat) ({ cls := "WeighedGate$Weighing", name := "prepare", desc := "(I[I)V" } : Jvm.MethodName)) ∈ xT0 := xTc4 27 rfl rfl
theorem q748 : (Jvm.Cond.methodLink "WeighedGate$Pairs" (41 : Nat) ({ cls := "WeighedGate$Pairs", name := "payOf", desc := "(IILWeighedGate$Text;)I" } : Jvm.MethodName)) ∈ xT0 := xTc4 28 rfl rfl
theorem q750 : (Jvm.Cond.instanceMethod ({ cls := "WeighedGate$Pairs", name := "payOf", desc := "(IILWeighedGate$Text;)I" } : Jvm.MethodName)) ∈ xT0 := xTc4 30 rfl rfl
theorem q751 : (Jvm.Cond.code ({ cls := "WeighedGate$Pairs", name := "payOf", desc := "(IILWeighedGate$Text;)I" } : Jvm.MethodName) prog_5_method_3_code (4 : Nat) (Option.some Jvm.ClassFile.FieldType.int)) ∈ xT0 := xTc4 31 rfl rfl
theorem q752 : (Jvm.Cond.methodLink "WeighedGate$Pairs" (45 : Nat) ({ cls := "WeighedGate$Weighing", name := "isInward", desc := "(I)Z" } : Jvm.MethodName)) ∈ xT0 := xTc4 32 rfl rfl
theorem q753 : (Jvm.Cond.instanceMethod ({ cls := "WeighedGate$Weighing", name := "isInward", desc := "(I)Z" } : Jvm.MethodName)) ∈ xT0 := xTc4 33 rfl rfl
theorem q754 : (Jvm.Cond.selects "WeighedGate$Weighing" ({ cls := "WeighedGate$Weighing", name := "isInward", desc := "(I)Z" } : Jvm.MethodName) ({ cls := "WeighedGate$Weighing", name := "isInward", desc := "(I)Z" } : Jvm.MethodName)) ∈ xT0 := xTc4 34 rfl rfl
theorem q755 : (Jvm.Cond.code ({ cls := "WeighedGate$Weighing", name := "isInward", desc := "(I)Z" } : Jvm.MethodName) prog_10_method_3_code (2 : Nat) (Option.some Jvm.ClassFile.FieldType.boolean)) ∈ xT0 := xTc4 35 rfl rfl
theorem q756 : (Jvm.Cond.methodLink "WeighedGate$Pairs" (49 : Nat) ({ cls := "WeighedGate$Weighing", name := "weigh", desc := "(I)V" } : Jvm.MethodName)) ∈ xT0 := xTc4 36 rfl rfl
theorem q757 : (Jvm.Cond.methodLink "WeighedGate$Pairs" (53 : Nat) ({ cls := "WeighedGate$Weighing", name := "mayBe", desc := "(LWeighedGate$Text;)Z" } : Jvm.MethodName)) ∈ xT0 := xTc4 37 rfl rfl
theorem q758 : (Jvm.Cond.methodLink "WeighedGate$Pairs" (57 : Nat) ({ cls := "WeighedGate$Weighing", name := "brings", desc := "(LWeighedGate$Text;)I" } : Jvm.MethodName)) ∈ xT0 := xTc4 38 rfl rfl
theorem q759 : (Jvm.Cond.methodLink "WeighedGate" (231 : Nat) ({ cls := "WeighedGate$Pairs", name := "mostPairs", desc := "()I" } : Jvm.MethodName)) ∈ xT0 := xTc4 39 rfl rfl
theorem q760 : (Jvm.Cond.instanceMethod ({ cls := "WeighedGate$Pairs", name := "mostPairs", desc := "()I" } : Jvm.MethodName)) ∈ xT0 := xTc4 40 rfl rfl
theorem q761 : (Jvm.Cond.selects "WeighedGate$Pairs" ({ cls := "WeighedGate$Pairs", name := "mostPairs", desc := "()I" } : Jvm.MethodName) ({ cls := "WeighedGate$Pairs", name := "mostPairs", desc := "()I" } : Jvm.MethodName)) ∈ xT0 := xTc4 41 rfl rfl
theorem q762 : (Jvm.Cond.code ({ cls := "WeighedGate$Pairs", name := "mostPairs", desc := "()I" } : Jvm.MethodName) prog_5_method_5_code (1 : Nat) (Option.some Jvm.ClassFile.FieldType.int)) ∈ xT0 := xTc4 42 rfl rfl
theorem q763 : (Jvm.Cond.methodLink "WeighedGate$Pairs" (61 : Nat) ({ cls := "WeighedGate$Pairs", name := "most", desc := "(IIZ)I" } : Jvm.MethodName)) ∈ xT0 := xTc4 43 rfl rfl
theorem q765 : (Jvm.Cond.instanceMethod ({ cls := "WeighedGate$Pairs", name := "most", desc := "(IIZ)I" } : Jvm.MethodName)) ∈ xT0 := xTc4 45 rfl rfl
theorem q766 : (Jvm.Cond.code ({ cls := "WeighedGate$Pairs", name := "most", desc := "(IIZ)I" } : Jvm.MethodName) prog_5_method_7_code (7 : Nat) (Option.some Jvm.ClassFile.FieldType.int)) ∈ xT0 := xTc4 46 rfl rfl
theorem q767 : (Jvm.Cond.methodLink "WeighedGate$Pairs" (65 : Nat) ({ cls := "WeighedGate$Pairs", name := "fits", desc := "(III)Z" } : Jvm.MethodName)) ∈ xT0 := xTc4 47 rfl rfl
theorem q769 : (Jvm.Cond.instanceMethod ({ cls := "WeighedGate$Pairs", name := "fits", desc := "(III)Z" } : Jvm.MethodName)) ∈ xT0 := xTc4 49 rfl rfl
theorem q770 : (Jvm.Cond.code ({ cls := "WeighedGate$Pairs", name := "fits", desc := "(III)Z" } : Jvm.MethodName) prog_5_method_4_code (4 : Nat) (Option.some Jvm.ClassFile.FieldType.boolean)) ∈ xT0 := xTc4 50 rfl rfl
theorem q771 : (Jvm.Cond.methodLink "WeighedGate$Pairs" (69 : Nat) ({ cls := "java/lang/Math", name := "max", desc := "(II)I" } : Jvm.MethodName)) ∈ xT0 := xTc4 51 rfl rfl
theorem q772 : (Jvm.Cond.methodLink "WeighedGate" (234 : Nat) ({ cls := "WeighedGate$Pairs", name := "mostBrought", desc := "()I" } : Jvm.MethodName)) ∈ xT0 := xTc4 52 rfl rfl
theorem q773 : (Jvm.Cond.instanceMethod ({ cls := "WeighedGate$Pairs", name := "mostBrought", desc := "()I" } : Jvm.MethodName)) ∈ xT0 := xTc4 53 rfl rfl
theorem q774 : (Jvm.Cond.selects "WeighedGate$Pairs" ({ cls := "WeighedGate$Pairs", name := "mostBrought", desc := "()I" } : Jvm.MethodName) ({ cls := "WeighedGate$Pairs", name := "mostBrought", desc := "()I" } : Jvm.MethodName)) ∈ xT0 := xTc4 54 rfl rfl
theorem q775 : (Jvm.Cond.code ({ cls := "WeighedGate$Pairs", name := "mostBrought", desc := "()I" } : Jvm.MethodName) prog_5_method_6_code (1 : Nat) (Option.some Jvm.ClassFile.FieldType.int)) ∈ xT0 := xTc4 55 rfl rfl
theorem q776 : (Jvm.Cond.methodLink "WeighedGateLaw" (96 : Nat) ({ cls := "WeighedGate", name := "against", desc := "(II)I" } : Jvm.MethodName)) ∈ xT0 := xTc4 56 rfl rfl
theorem q777 : (Jvm.Cond.instanceMethod ({ cls := "WeighedGate", name := "against", desc := "(II)I" } : Jvm.MethodName)) ∈ xT0 := xTc4 57 rfl rfl
theorem q778 : (Jvm.Cond.selects "WeighedGate" ({ cls := "WeighedGate", name := "against", desc := "(II)I" } : Jvm.MethodName) ({ cls := "WeighedGate", name := "against", desc := "(II)I" } : Jvm.MethodName)) ∈ xT0 := xTc4 58 rfl rfl
theorem q779 : (Jvm.Cond.code ({ cls := "WeighedGate", name := "against", desc := "(II)I" } : Jvm.MethodName) prog_1_method_21_code (3 : Nat) (Option.some Jvm.ClassFile.FieldType.int)) ∈ xT0 := xTc4 59 rfl rfl
theorem q780 : (Jvm.Cond.methodLink "WeighedGate" (237 : Nat) ({ cls := "WeighedGate$Pairs", name := "choose", desc := "()V" } : Jvm.MethodName)) ∈ xT0 := xTc4 60 rfl rfl
theorem q781 : (Jvm.Cond.instanceMethod ({ cls := "WeighedGate$Pairs", name := "choose", desc := "()V" } : Jvm.MethodName)) ∈ xT0 := xTc4 61 rfl rfl
theorem q782 : (Jvm.Cond.selects "WeighedGate$Pairs" ({ cls := "WeighedGate$Pairs", name := "choose", desc := "()V" } : Jvm.MethodName) ({ cls := "WeighedGate$Pairs", name := "choose", desc := "()V" } : Jvm.MethodName)) ∈ xT0 := xTc4 62 rfl rfl
theorem q783 : (Jvm.Cond.code ({ cls := "WeighedGate$Pairs", name := "choose", desc := "()V" } : Jvm.MethodName) prog_5_method_8_code (4 : Nat) (Option.none : Option Jvm.ClassFile.FieldType)) ∈ xT0 := xTc4 63 rfl rfl
theorem q784 : (Jvm.Cond.methodLink "WeighedGate$Pairs" (75 : Nat) ({ cls := "WeighedGate$Pairs", name := "firstOther", desc := "(II)I" } : Jvm.MethodName)) ∈ xT0 := xTc4 64 rfl rfl
theorem q786 : (Jvm.Cond.instanceMethod ({ cls := "WeighedGate$Pairs", name := "firstOther", desc := "(II)I" } : Jvm.MethodName)) ∈ xT0 := xTc4 66 rfl rfl
theorem q787 : (Jvm.Cond.code ({ cls := "WeighedGate$Pairs", name := "firstOther", desc := "(II)I" } : Jvm.MethodName) prog_5_method_9_code (5 : Nat) (Option.some Jvm.ClassFile.FieldType.int)) ∈ xT0 := xTc4 67 rfl rfl
theorem q788 : (Jvm.Cond.methodLink "WeighedGateLaw" (100 : Nat) ({ cls := "WeighedGate", name := "best", desc := "(II)I" } : Jvm.MethodName)) ∈ xT0 := xTc4 68 rfl rfl
theorem q789 : (Jvm.Cond.instanceMethod ({ cls := "WeighedGate", name := "best", desc := "(II)I" } : Jvm.MethodName)) ∈ xT0 := xTc4 69 rfl rfl
theorem q790 : (Jvm.Cond.selects "WeighedGate" ({ cls := "WeighedGate", name := "best", desc := "(II)I" } : Jvm.MethodName) ({ cls := "WeighedGate", name := "best", desc := "(II)I" } : Jvm.MethodName)) ∈ xT0 := xTc4 70 rfl rfl
theorem q791 : (Jvm.Cond.code ({ cls := "WeighedGate", name := "best", desc := "(II)I" } : Jvm.MethodName) prog_1_method_22_code (3 : Nat) (Option.some Jvm.ClassFile.FieldType.int)) ∈ xT0 := xTc4 71 rfl rfl
theorem q792 : (Jvm.Cond.methodLink "WeighedGate" (243 : Nat) ({ cls := "WeighedGate$Weighing", name := "findBest", desc := "(ILWeighedGate$Text;)V" } : Jvm.MethodName)) ∈ xT0 := xTc4 72 rfl rfl
theorem q793 : (Jvm.Cond.instanceMethod ({ cls := "WeighedGate$Weighing", name := "findBest", desc := "(ILWeighedGate$Text;)V" } : Jvm.MethodName)) ∈ xT0 := xTc4 73 rfl rfl
theorem q794 : (Jvm.Cond.selects "WeighedGate$Weighing" ({ cls := "WeighedGate$Weighing", name := "findBest", desc := "(ILWeighedGate$Text;)V" } : Jvm.MethodName) ({ cls := "WeighedGate$Weighing", name := "findBest", desc := "(ILWeighedGate$Text;)V" } : Jvm.MethodName)) ∈ xT0 := xTc4 74 rfl rfl
theorem q795 : (Jvm.Cond.code ({ cls := "WeighedGate$Weighing", name := "findBest", desc := "(ILWeighedGate$Text;)V" } : Jvm.MethodName) prog_10_method_10_code (5 : Nat) (Option.none : Option Jvm.ClassFile.FieldType)) ∈ xT0 := xTc4 75 rfl rfl
theorem q796 : (Jvm.Cond.methodLink "WeighedGate$Weighing" (123 : Nat) ({ cls := "WeighedGate$Weighing", name := "weigh", desc := "(I)V" } : Jvm.MethodName)) ∈ xT0 := xTc4 76 rfl rfl
theorem q797 : (Jvm.Cond.methodLink "WeighedGate$Weighing" (127 : Nat) ({ cls := "WeighedGate$Weighing", name := "mayBe", desc := "(LWeighedGate$Text;)Z" } : Jvm.MethodName)) ∈ xT0 := xTc4 77 rfl rfl
theorem q798 : (Jvm.Cond.methodLink "WeighedGate$Weighing" (131 : Nat) ({ cls := "WeighedGate$Weighing", name := "brings", desc := "(LWeighedGate$Text;)I" } : Jvm.MethodName)) ∈ xT0 := xTc4 78 rfl rfl
theorem q799 : (Jvm.Cond.methodLink "WeighedGateLaw" (104 : Nat) ({ cls := "WeighedGate", name := "dusk", desc := "(II)I" } : Jvm.MethodName)) ∈ xT0 := xTc4 79 rfl rfl
theorem q800 : (Jvm.Cond.instanceMethod ({ cls := "WeighedGate", name := "dusk", desc := "(II)I" } : Jvm.MethodName)) ∈ xT0 := xTc4 80 rfl rfl
theorem q801 : (Jvm.Cond.selects "WeighedGate" ({ cls := "WeighedGate", name := "dusk", desc := "(II)I" } : Jvm.MethodName) ({ cls := "WeighedGate", name := "dusk", desc := "(II)I" } : Jvm.MethodName)) ∈ xT0 := xTc4 81 rfl rfl
theorem q802 : (Jvm.Cond.code ({ cls := "WeighedGate", name := "dusk", desc := "(II)I" } : Jvm.MethodName) prog_1_method_23_code (3 : Nat) (Option.some Jvm.ClassFile.FieldType.int)) ∈ xT0 := xTc4 82 rfl rfl
theorem q803 : (Jvm.Cond.methodLink "WeighedGate" (252 : Nat) ({ cls := "WeighedGate$Day", name := "takeComes", desc := "()V" } : Jvm.MethodName)) ∈ xT0 := xTc4 83 rfl rfl
theorem q804 : (Jvm.Cond.instanceMethod ({ cls := "WeighedGate$Day", name := "takeComes", desc := "()V" } : Jvm.MethodName)) ∈ xT0 := xTc4 84 rfl rfl
theorem q805 : (Jvm.Cond.selects "WeighedGate$Day" ({ cls := "WeighedGate$Day", name := "takeComes", desc := "()V" } : Jvm.MethodName) ({ cls := "WeighedGate$Day", name := "takeComes", desc := "()V" } : Jvm.MethodName)) ∈ xT0 := xTc4 85 rfl rfl
theorem q806 : (Jvm.Cond.code ({ cls := "WeighedGate$Day", name := "takeComes", desc := "()V" } : Jvm.MethodName) prog_3_method_2_code (1 : Nat) (Option.none : Option Jvm.ClassFile.FieldType)) ∈ xT0 := xTc4 86 rfl rfl
theorem q807 : (Jvm.Cond.methodLink "WeighedGate$Day" (32 : Nat) ({ cls := "java/lang/System", name := "arraycopy", desc := "(Ljava/lang/Object;ILjava/lang/Object;II)V" } : Jvm.MethodName)) ∈ xT0 := xTc4 87 rfl rfl
theorem q808 : (Jvm.Cond.static ({ cls := "java/lang/System", name := "arraycopy", desc := "(Ljava/lang/Object;ILjava/lang/Object;II)V" } : Jvm.MethodName)) ∈ xT0 := xTc4 88 rfl rfl
theorem q809 : (Jvm.Cond.native ({ cls := "java/lang/System", name := "arraycopy", desc := "(Ljava/lang/Object;ILjava/lang/Object;II)V" } : Jvm.MethodName)) ∈ xT0 := xTc4 89 rfl rfl
theorem q810 : (Jvm.Cond.methodLink "WeighedGate" (255 : Nat) ({ cls := "WeighedGate$Day", name := "run", desc := "(IIILWeighedGate$Text;)V" } : Jvm.MethodName)) ∈ xT0 := xTc4 90 rfl rfl
theorem q811 : (Jvm.Cond.instanceMethod ({ cls := "WeighedGate$Day", name := "run", desc := "(IIILWeighedGate$Text;)V" } : Jvm.MethodName)) ∈ xT0 := xTc4 91 rfl rfl
theorem q812 : (Jvm.Cond.selects "WeighedGate$Day" ({ cls := "WeighedGate$Day", name := "run", desc := "(IIILWeighedGate$Text;)V" } : Jvm.MethodName) ({ cls := "WeighedGate$Day", name := "run", desc := "(IIILWeighedGate$Text;)V" } : Jvm.MethodName)) ∈ xT0 := xTc4 92 rfl rfl
theorem q813 : (Jvm.Cond.code ({ cls := "WeighedGate$Day", name := "run", desc := "(IIILWeighedGate$Text;)V" } : Jvm.MethodName) prog_3_method_4_code (6 : Nat) (Option.none : Option Jvm.ClassFile.FieldType)) ∈ xT0 := xTc4 93 rfl rfl
theorem q814 : (Jvm.Cond.methodLink "WeighedGate$Day" (63 : Nat) ({ cls := "WeighedGate$Weighing", name := "prepare", desc := "(I[I)V" } : Jvm.MethodName)) ∈ xT0 := xTc4 94 rfl rfl
theorem q815 : (Jvm.Cond.methodLink "WeighedGate$Day" (69 : Nat) ({ cls := "WeighedGate$Weighing", name := "findBest", desc := "(ILWeighedGate$Text;)V" } : Jvm.MethodName)) ∈ xT0 := xTc4 95 rfl rfl
theorem q816 : (Jvm.Cond.methodLink "WeighedGate$Day" (73 : Nat) ({ cls := "WeighedGate$Day", name := "noteBest", desc := "(I)V" } : Jvm.MethodName)) ∈ xT0 := xTc4 96 rfl rfl
theorem q818 : (Jvm.Cond.instanceMethod ({ cls := "WeighedGate$Day", name := "noteBest", desc := "(I)V" } : Jvm.MethodName)) ∈ xT0 := xTc4 98 rfl rfl
theorem q819 : (Jvm.Cond.code ({ cls := "WeighedGate$Day", name := "noteBest", desc := "(I)V" } : Jvm.MethodName) prog_3_method_5_code (4 : Nat) (Option.none : Option Jvm.ClassFile.FieldType)) ∈ xT0 := xTc4 99 rfl rfl
theorem q820 : (Jvm.Cond.methodLink "WeighedGate$Day" (80 : Nat) ({ cls := "WeighedGate$Weighing", name := "weigh", desc := "(I)V" } : Jvm.MethodName)) ∈ xT0 := xTc4 100 rfl rfl
theorem q822 : (Jvm.Cond.methodLink "WeighedGate$Day" (96 : Nat) ({ cls := "java/lang/Math", name := "max", desc := "(II)I" } : Jvm.MethodName)) ∈ xT0 := xTc4 102 rfl rfl
theorem q823 : (Jvm.Cond.methodLink "WeighedGate" (271 : Nat) ({ cls := "WeighedGate$Day", name := "longestLeft", desc := "(I)I" } : Jvm.MethodName)) ∈ xT0 := xTc4 103 rfl rfl
theorem q824 : (Jvm.Cond.instanceMethod ({ cls := "WeighedGate$Day", name := "longestLeft", desc := "(I)I" } : Jvm.MethodName)) ∈ xT0 := xTc4 104 rfl rfl
theorem q825 : (Jvm.Cond.selects "WeighedGate$Day" ({ cls := "WeighedGate$Day", name := "longestLeft", desc := "(I)I" } : Jvm.MethodName) ({ cls := "WeighedGate$Day", name := "longestLeft", desc := "(I)I" } : Jvm.MethodName)) ∈ xT0 := xTc4 105 rfl rfl
theorem q826 : (Jvm.Cond.code ({ cls := "WeighedGate$Day", name := "longestLeft", desc := "(I)I" } : Jvm.MethodName) prog_3_method_6_code (4 : Nat) (Option.some Jvm.ClassFile.FieldType.int)) ∈ xT0 := xTc4 106 rfl rfl
theorem q827 : (Jvm.Cond.methodLink "WeighedGateLaw" (108 : Nat) ({ cls := "WeighedGate", name := "goes", desc := "(II)I" } : Jvm.MethodName)) ∈ xT0 := xTc4 107 rfl rfl
theorem q828 : (Jvm.Cond.instanceMethod ({ cls := "WeighedGate", name := "goes", desc := "(II)I" } : Jvm.MethodName)) ∈ xT0 := xTc4 108 rfl rfl
theorem q829 : (Jvm.Cond.selects "WeighedGate" ({ cls := "WeighedGate", name := "goes", desc := "(II)I" } : Jvm.MethodName) ({ cls := "WeighedGate", name := "goes", desc := "(II)I" } : Jvm.MethodName)) ∈ xT0 := xTc4 109 rfl rfl
theorem q830 : (Jvm.Cond.code ({ cls := "WeighedGate", name := "goes", desc := "(II)I" } : Jvm.MethodName) prog_1_method_24_code (4 : Nat) (Option.some Jvm.ClassFile.FieldType.int)) ∈ xT0 := xTc4 110 rfl rfl
theorem q831 : (Jvm.Cond.methodLink "WeighedGate" (274 : Nat) ({ cls := "WeighedGate", name := "runTillDusk", desc := "()V" } : Jvm.MethodName)) ∈ xT0 := xTc4 111 rfl rfl
theorem q833 : (Jvm.Cond.instanceMethod ({ cls := "WeighedGate", name := "runTillDusk", desc := "()V" } : Jvm.MethodName)) ∈ xT0 := xTc4 113 rfl rfl
theorem q834 : (Jvm.Cond.code ({ cls := "WeighedGate", name := "runTillDusk", desc := "()V" } : Jvm.MethodName) prog_1_method_50_code (1 : Nat) (Option.none : Option Jvm.ClassFile.FieldType)) ∈ xT0 := xTc4 114 rfl rfl
theorem q835 : (Jvm.Cond.methodLink "WeighedGate" (277 : Nat) ({ cls := "WeighedGate$Day", name := "hourOf", desc := "(I)I" } : Jvm.MethodName)) ∈ xT0 := xTc4 115 rfl rfl
theorem q836 : (Jvm.Cond.instanceMethod ({ cls := "WeighedGate$Day", name := "hourOf", desc := "(I)I" } : Jvm.MethodName)) ∈ xT0 := xTc4 116 rfl rfl
theorem q837 : (Jvm.Cond.selects "WeighedGate$Day" ({ cls := "WeighedGate$Day", name := "hourOf", desc := "(I)I" } : Jvm.MethodName) ({ cls := "WeighedGate$Day", name := "hourOf", desc := "(I)I" } : Jvm.MethodName)) ∈ xT0 := xTc4 117 rfl rfl
theorem q838 : (Jvm.Cond.code ({ cls := "WeighedGate$Day", name := "hourOf", desc := "(I)I" } : Jvm.MethodName) prog_3_method_7_code (3 : Nat) (Option.some Jvm.ClassFile.FieldType.int)) ∈ xT0 := xTc4 118 rfl rfl
theorem q839 : (Jvm.Cond.methodLink "WeighedGate" (280 : Nat) ({ cls := "WeighedGate$Day", name := "setAt", desc := "(I)I" } : Jvm.MethodName)) ∈ xT0 := xTc4 119 rfl rfl
theorem q840 : (Jvm.Cond.instanceMethod ({ cls := "WeighedGate$Day", name := "setAt", desc := "(I)I" } : Jvm.MethodName)) ∈ xT0 := xTc4 120 rfl rfl
theorem q841 : (Jvm.Cond.selects "WeighedGate$Day" ({ cls := "WeighedGate$Day", name := "setAt", desc := "(I)I" } : Jvm.MethodName) ({ cls := "WeighedGate$Day", name := "setAt", desc := "(I)I" } : Jvm.MethodName)) ∈ xT0 := xTc4 121 rfl rfl
theorem q842 : (Jvm.Cond.code ({ cls := "WeighedGate$Day", name := "setAt", desc := "(I)I" } : Jvm.MethodName) prog_3_method_8_code (3 : Nat) (Option.some Jvm.ClassFile.FieldType.int)) ∈ xT0 := xTc4 122 rfl rfl
theorem q843 : (Jvm.Cond.methodLink "WeighedGateLaw" (112 : Nat) ({ cls := "WeighedGate", name := "hold", desc := "(I)I" } : Jvm.MethodName)) ∈ xT0 := xTc4 123 rfl rfl
theorem q844 : (Jvm.Cond.instanceMethod ({ cls := "WeighedGate", name := "hold", desc := "(I)I" } : Jvm.MethodName)) ∈ xT0 := xTc4 124 rfl rfl
theorem q845 : (Jvm.Cond.selects "WeighedGate" ({ cls := "WeighedGate", name := "hold", desc := "(I)I" } : Jvm.MethodName) ({ cls := "WeighedGate", name := "hold", desc := "(I)I" } : Jvm.MethodName)) ∈ xT0 := xTc4 125 rfl rfl
theorem q846 : (Jvm.Cond.code ({ cls := "WeighedGate", name := "hold", desc := "(I)I" } : Jvm.MethodName) prog_1_method_25_code (5 : Nat) (Option.some Jvm.ClassFile.FieldType.int)) ∈ xT0 := xTc4 126 rfl rfl
theorem q847 : (Jvm.Cond.methodLink "WeighedGateLaw" (116 : Nat) ({ cls := "WeighedGate", name := "gain", desc := "(I)I" } : Jvm.MethodName)) ∈ xT0 := xTc4 127 rfl rfl
theorem q848 : (Jvm.Cond.instanceMethod ({ cls := "WeighedGate", name := "gain", desc := "(I)I" } : Jvm.MethodName)) ∈ xT0 := xTc4 128 rfl rfl
theorem q849 : (Jvm.Cond.selects "WeighedGate" ({ cls := "WeighedGate", name := "gain", desc := "(I)I" } : Jvm.MethodName) ({ cls := "WeighedGate", name := "gain", desc := "(I)I" } : Jvm.MethodName)) ∈ xT0 := xTc4 129 rfl rfl
theorem q850 : (Jvm.Cond.code ({ cls := "WeighedGate", name := "gain", desc := "(I)I" } : Jvm.MethodName) prog_1_method_26_code (3 : Nat) (Option.some Jvm.ClassFile.FieldType.int)) ∈ xT0 := xTc4 130 rfl rfl
theorem q851 : (Jvm.Cond.constant "WeighedGate" (283 : Nat) (-100000 : Int32)) ∈ xT0 := xTc4 131 rfl rfl
theorem q852 : (Jvm.Cond.methodLink "WeighedGateLaw" (120 : Nat) ({ cls := "WeighedGate", name := "bring", desc := "(II)I" } : Jvm.MethodName)) ∈ xT0 := xTc4 132 rfl rfl
theorem q853 : (Jvm.Cond.instanceMethod ({ cls := "WeighedGate", name := "bring", desc := "(II)I" } : Jvm.MethodName)) ∈ xT0 := xTc4 133 rfl rfl
theorem q854 : (Jvm.Cond.selects "WeighedGate" ({ cls := "WeighedGate", name := "bring", desc := "(II)I" } : Jvm.MethodName) ({ cls := "WeighedGate", name := "bring", desc := "(II)I" } : Jvm.MethodName)) ∈ xT0 := xTc4 134 rfl rfl
theorem q855 : (Jvm.Cond.code ({ cls := "WeighedGate", name := "bring", desc := "(II)I" } : Jvm.MethodName) prog_1_method_27_code (6 : Nat) (Option.some Jvm.ClassFile.FieldType.int)) ∈ xT0 := xTc4 135 rfl rfl
theorem q856 : (Jvm.Cond.methodLink "WeighedGateLaw" (124 : Nat) ({ cls := "WeighedGate", name := "judge", desc := "(I)I" } : Jvm.MethodName)) ∈ xT0 := xTc4 136 rfl rfl
theorem q857 : (Jvm.Cond.instanceMethod ({ cls := "WeighedGate", name := "judge", desc := "(I)I" } : Jvm.MethodName)) ∈ xT0 := xTc4 137 rfl rfl
theorem q858 : (Jvm.Cond.selects "WeighedGate" ({ cls := "WeighedGate", name := "judge", desc := "(I)I" } : Jvm.MethodName) ({ cls := "WeighedGate", name := "judge", desc := "(I)I" } : Jvm.MethodName)) ∈ xT0 := xTc4 138 rfl rfl
theorem q859 : (Jvm.Cond.code ({ cls := "WeighedGate", name := "judge", desc := "(I)I" } : Jvm.MethodName) prog_1_method_28_code (9 : Nat) (Option.some Jvm.ClassFile.FieldType.int)) ∈ xT0 := xTc4 139 rfl rfl
theorem q860 : (Jvm.Cond.methodLink "WeighedGate" (285 : Nat) ({ cls := "WeighedGate", name := "refusalOfRows", desc := "(I)I" } : Jvm.MethodName)) ∈ xT0 := xTc4 140 rfl rfl
theorem q862 : (Jvm.Cond.instanceMethod ({ cls := "WeighedGate", name := "refusalOfRows", desc := "(I)I" } : Jvm.MethodName)) ∈ xT0 := xTc4 142 rfl rfl
theorem q863 : (Jvm.Cond.code ({ cls := "WeighedGate", name := "refusalOfRows", desc := "(I)I" } : Jvm.MethodName) prog_1_method_52_code (2 : Nat) (Option.some Jvm.ClassFile.FieldType.int)) ∈ xT0 := xTc4 143 rfl rfl
theorem q864 : (Jvm.Cond.methodLink "WeighedGate" (300 : Nat) ({ cls := "WeighedGate", name := "isSheet", desc := "(I)Z" } : Jvm.MethodName)) ∈ xT0 := xTc4 144 rfl rfl
theorem q865 : (Jvm.Cond.static ({ cls := "WeighedGate", name := "isSheet", desc := "(I)Z" } : Jvm.MethodName)) ∈ xT0 := xTc4 145 rfl rfl
theorem q866 : (Jvm.Cond.code ({ cls := "WeighedGate", name := "isSheet", desc := "(I)Z" } : Jvm.MethodName) prog_1_method_46_code (1 : Nat) (Option.some Jvm.ClassFile.FieldType.boolean)) ∈ xT0 := xTc4 146 rfl rfl
theorem q867 : (Jvm.Cond.methodLink "WeighedGate" (292 : Nat) ({ cls := "WeighedGate", name := "isWeighingThatMayBe", desc := "(II)Z" } : Jvm.MethodName)) ∈ xT0 := xTc4 147 rfl rfl
theorem q869 : (Jvm.Cond.instanceMethod ({ cls := "WeighedGate", name := "isWeighingThatMayBe", desc := "(II)Z" } : Jvm.MethodName)) ∈ xT0 := xTc4 149 rfl rfl
theorem q870 : (Jvm.Cond.code ({ cls := "WeighedGate", name := "isWeighingThatMayBe", desc := "(II)Z" } : Jvm.MethodName) prog_1_method_53_code (3 : Nat) (Option.some Jvm.ClassFile.FieldType.boolean)) ∈ xT0 := xTc4 150 rfl rfl
theorem q871 : (Jvm.Cond.methodLink "WeighedGateLaw" (128 : Nat) ({ cls := "WeighedGate", name := "laws", desc := "(I)I" } : Jvm.MethodName)) ∈ xT0 := xTc4 151 rfl rfl
theorem q872 : (Jvm.Cond.instanceMethod ({ cls := "WeighedGate", name := "laws", desc := "(I)I" } : Jvm.MethodName)) ∈ xT0 := xTc4 152 rfl rfl
theorem q873 : (Jvm.Cond.selects "WeighedGate" ({ cls := "WeighedGate", name := "laws", desc := "(I)I" } : Jvm.MethodName) ({ cls := "WeighedGate", name := "laws", desc := "(I)I" } : Jvm.MethodName)) ∈ xT0 := xTc4 153 rfl rfl
theorem q874 : (Jvm.Cond.code ({ cls := "WeighedGate", name := "laws", desc := "(I)I" } : Jvm.MethodName) prog_1_method_29_code (5 : Nat) (Option.some Jvm.ClassFile.FieldType.int)) ∈ xT0 := xTc4 154 rfl rfl
theorem q875 : (Jvm.Cond.methodLink "WeighedGate" (296 : Nat) ({ cls := "WeighedGate$Day", name := "isToldBy", desc := "(LWeighedGate$Sheet;)Z" } : Jvm.MethodName)) ∈ xT0 := xTc4 155 rfl rfl
theorem q876 : (Jvm.Cond.instanceMethod ({ cls := "WeighedGate$Day", name := "isToldBy", desc := "(LWeighedGate$Sheet;)Z" } : Jvm.MethodName)) ∈ xT0 := xTc4 156 rfl rfl
theorem q877 : (Jvm.Cond.selects "WeighedGate$Day" ({ cls := "WeighedGate$Day", name := "isToldBy", desc := "(LWeighedGate$Sheet;)Z" } : Jvm.MethodName) ({ cls := "WeighedGate$Day", name := "isToldBy", desc := "(LWeighedGate$Sheet;)Z" } : Jvm.MethodName)) ∈ xT0 := xTc4 157 rfl rfl
theorem q878 : (Jvm.Cond.code ({ cls := "WeighedGate$Day", name := "isToldBy", desc := "(LWeighedGate$Sheet;)Z" } : Jvm.MethodName) prog_3_method_9_code (3 : Nat) (Option.some Jvm.ClassFile.FieldType.boolean)) ∈ xT0 := xTc4 158 rfl rfl
theorem q879 : (Jvm.Cond.methodLink "WeighedGateLaw" (132 : Nat) ({ cls := "WeighedGate", name := "film", desc := "(I)I" } : Jvm.MethodName)) ∈ xT0 := xTc4 159 rfl rfl
theorem q880 : (Jvm.Cond.instanceMethod ({ cls := "WeighedGate", name := "film", desc := "(I)I" } : Jvm.MethodName)) ∈ xT0 := xTc4 160 rfl rfl
theorem q881 : (Jvm.Cond.selects "WeighedGate" ({ cls := "WeighedGate", name := "film", desc := "(I)I" } : Jvm.MethodName) ({ cls := "WeighedGate", name := "film", desc := "(I)I" } : Jvm.MethodName)) ∈ xT0 := xTc4 161 rfl rfl
theorem q882 : (Jvm.Cond.code ({ cls := "WeighedGate", name := "film", desc := "(I)I" } : Jvm.MethodName) prog_1_method_30_code (4 : Nat) (Option.some Jvm.ClassFile.FieldType.int)) ∈ xT0 := xTc4 162 rfl rfl
theorem q883 : (Jvm.Cond.methodLink "WeighedGate" (306 : Nat) ({ cls := "WeighedGate$Sheet", name := "become", desc := "(II)V" } : Jvm.MethodName)) ∈ xT0 := xTc4 163 rfl rfl
theorem q884 : (Jvm.Cond.instanceMethod ({ cls := "WeighedGate$Sheet", name := "become", desc := "(II)V" } : Jvm.MethodName)) ∈ xT0 := xTc4 164 rfl rfl
theorem q885 : (Jvm.Cond.selects "WeighedGate$Sheet" ({ cls := "WeighedGate$Sheet", name := "become", desc := "(II)V" } : Jvm.MethodName) ({ cls := "WeighedGate$Sheet", name := "become", desc := "(II)V" } : Jvm.MethodName)) ∈ xT0 := xTc4 165 rfl rfl
theorem q886 : (Jvm.Cond.code ({ cls := "WeighedGate$Sheet", name := "become", desc := "(II)V" } : Jvm.MethodName) prog_8_method_2_code (4 : Nat) (Option.none : Option Jvm.ClassFile.FieldType)) ∈ xT0 := xTc4 166 rfl rfl
theorem q887 : (Jvm.Cond.methodLink "WeighedGate" (313 : Nat) ({ cls := "WeighedGate$Sheet", name := "put", desc := "(II)V" } : Jvm.MethodName)) ∈ xT0 := xTc4 167 rfl rfl
theorem q888 : (Jvm.Cond.instanceMethod ({ cls := "WeighedGate$Sheet", name := "put", desc := "(II)V" } : Jvm.MethodName)) ∈ xT0 := xTc4 168 rfl rfl
theorem q889 : (Jvm.Cond.selects "WeighedGate$Sheet" ({ cls := "WeighedGate$Sheet", name := "put", desc := "(II)V" } : Jvm.MethodName) ({ cls := "WeighedGate$Sheet", name := "put", desc := "(II)V" } : Jvm.MethodName)) ∈ xT0 := xTc4 169 rfl rfl
theorem q890 : (Jvm.Cond.code ({ cls := "WeighedGate$Sheet", name := "put", desc := "(II)V" } : Jvm.MethodName) prog_8_method_3_code (3 : Nat) (Option.none : Option Jvm.ClassFile.FieldType)) ∈ xT0 := xTc4 170 rfl rfl
theorem q892 : (Jvm.Cond.methodLink "WeighedGateLaw" (136 : Nat) ({ cls := "WeighedGate", name := "lost", desc := "(IIII)I" } : Jvm.MethodName)) ∈ xT0 := xTc4 172 rfl rfl
theorem q893 : (Jvm.Cond.instanceMethod ({ cls := "WeighedGate", name := "lost", desc := "(IIII)I" } : Jvm.MethodName)) ∈ xT0 := xTc4 173 rfl rfl
theorem q894 : (Jvm.Cond.selects "WeighedGate" ({ cls := "WeighedGate", name := "lost", desc := "(IIII)I" } : Jvm.MethodName) ({ cls := "WeighedGate", name := "lost", desc := "(IIII)I" } : Jvm.MethodName)) ∈ xT0 := xTc4 174 rfl rfl
theorem q895 : (Jvm.Cond.code ({ cls := "WeighedGate", name := "lost", desc := "(IIII)I" } : Jvm.MethodName) prog_1_method_31_code (9 : Nat) (Option.some Jvm.ClassFile.FieldType.int)) ∈ xT0 := xTc4 175 rfl rfl
theorem q896 : (Jvm.Cond.methodLink "WeighedGate" (318 : Nat) ({ cls := "WeighedGate$Yard", name := "all", desc := "()I" } : Jvm.MethodName)) ∈ xT0 := xTc4 176 rfl rfl
theorem q897 : (Jvm.Cond.methodLink "WeighedGate" (321 : Nat) ({ cls := "java/lang/Integer", name := "bitCount", desc := "(I)I" } : Jvm.MethodName)) ∈ xT0 := xTc4 177 rfl rfl
theorem q898 : (Jvm.Cond.methodLink "WeighedGate" (326 : Nat) ({ cls := "WeighedGate$Weighing", name := "weightOf", desc := "(I)I" } : Jvm.MethodName)) ∈ xT0 := xTc4 178 rfl rfl
theorem q899 : (Jvm.Cond.methodLink "WeighedGateLaw" (140 : Nat) ({ cls := "WeighedGate", name := "drawn", desc := "(II)I" } : Jvm.MethodName)) ∈ xT0 := xTc4 179 rfl rfl
theorem q900 : (Jvm.Cond.instanceMethod ({ cls := "WeighedGate", name := "drawn", desc := "(II)I" } : Jvm.MethodName)) ∈ xT0 := xTc4 180 rfl rfl
theorem q901 : (Jvm.Cond.selects "WeighedGate" ({ cls := "WeighedGate", name := "drawn", desc := "(II)I" } : Jvm.MethodName) ({ cls := "WeighedGate", name := "drawn", desc := "(II)I" } : Jvm.MethodName)) ∈ xT0 := xTc4 181 rfl rfl
theorem q902 : (Jvm.Cond.code ({ cls := "WeighedGate", name := "drawn", desc := "(II)I" } : Jvm.MethodName) prog_1_method_32_code (3 : Nat) (Option.some Jvm.ClassFile.FieldType.int)) ∈ xT0 := xTc4 182 rfl rfl
theorem q903 : (Jvm.Cond.methodLink "WeighedGate" (329 : Nat) ({ cls := "WeighedGate", name := "isSeed", desc := "(I)Z" } : Jvm.MethodName)) ∈ xT0 := xTc4 183 rfl rfl
theorem q904 : (Jvm.Cond.static ({ cls := "WeighedGate", name := "isSeed", desc := "(I)Z" } : Jvm.MethodName)) ∈ xT0 := xTc4 184 rfl rfl
theorem q905 : (Jvm.Cond.code ({ cls := "WeighedGate", name := "isSeed", desc := "(I)Z" } : Jvm.MethodName) prog_1_method_45_code (1 : Nat) (Option.some Jvm.ClassFile.FieldType.boolean)) ∈ xT0 := xTc4 185 rfl rfl
theorem q906 : (Jvm.Cond.constant "WeighedGate" (371 : Nat) (99999 : Int32)) ∈ xT0 := xTc4 186 rfl rfl
theorem q907 : (Jvm.Cond.methodLink "WeighedGate" (332 : Nat) ({ cls := "WeighedGate", name := "runDrawn", desc := "(I)V" } : Jvm.MethodName)) ∈ xT0 := xTc4 187 rfl rfl
theorem q909 : (Jvm.Cond.instanceMethod ({ cls := "WeighedGate", name := "runDrawn", desc := "(I)V" } : Jvm.MethodName)) ∈ xT0 := xTc4 189 rfl rfl
theorem q910 : (Jvm.Cond.code ({ cls := "WeighedGate", name := "runDrawn", desc := "(I)V" } : Jvm.MethodName) prog_1_method_51_code (2 : Nat) (Option.none : Option Jvm.ClassFile.FieldType)) ∈ xT0 := xTc4 190 rfl rfl
theorem q911 : (Jvm.Cond.methodLink "WeighedGate" (377 : Nat) ({ cls := "WeighedGate$Day", name := "drawComes", desc := "(I)V" } : Jvm.MethodName)) ∈ xT0 := xTc4 191 rfl rfl
theorem q912 : (Jvm.Cond.instanceMethod ({ cls := "WeighedGate$Day", name := "drawComes", desc := "(I)V" } : Jvm.MethodName)) ∈ xT0 := xTc4 192 rfl rfl
theorem q913 : (Jvm.Cond.selects "WeighedGate$Day" ({ cls := "WeighedGate$Day", name := "drawComes", desc := "(I)V" } : Jvm.MethodName) ({ cls := "WeighedGate$Day", name := "drawComes", desc := "(I)V" } : Jvm.MethodName)) ∈ xT0 := xTc4 193 rfl rfl
theorem q914 : (Jvm.Cond.code ({ cls := "WeighedGate$Day", name := "drawComes", desc := "(I)V" } : Jvm.MethodName) prog_3_method_3_code (5 : Nat) (Option.none : Option Jvm.ClassFile.FieldType)) ∈ xT0 := xTc4 194 rfl rfl
theorem q915 : (Jvm.Cond.constantLong "WeighedGate$Day" (42 : Nat) (48271 : Int64)) ∈ xT0 := xTc4 195 rfl rfl
theorem q916 : (Jvm.Cond.constantLong "WeighedGate$Day" (44 : Nat) (2147483647 : Int64)) ∈ xT0 := xTc4 196 rfl rfl
theorem q917 : (Jvm.Cond.constantLong "WeighedGate$Day" (46 : Nat) (10 : Int64)) ∈ xT0 := xTc4 197 rfl rfl
theorem q918 : (Jvm.Cond.methodLink "WeighedGateLaw" (144 : Nat) ({ cls := "WeighedGate", name := "odds", desc := "(IIII)J" } : Jvm.MethodName)) ∈ xT0 := xTc4 198 rfl rfl
theorem q919 : (Jvm.Cond.instanceMethod ({ cls := "WeighedGate", name := "odds", desc := "(IIII)J" } : Jvm.MethodName)) ∈ xT0 := xTc4 199 rfl rfl
theorem q920 : (Jvm.Cond.selects "WeighedGate" ({ cls := "WeighedGate", name := "odds", desc := "(IIII)J" } : Jvm.MethodName) ({ cls := "WeighedGate", name := "odds", desc := "(IIII)J" } : Jvm.MethodName)) ∈ xT0 := xTc4 200 rfl rfl
theorem q921 : (Jvm.Cond.code ({ cls := "WeighedGate", name := "odds", desc := "(IIII)J" } : Jvm.MethodName) prog_1_method_33_code (7 : Nat) (Option.some Jvm.ClassFile.FieldType.long)) ∈ xT0 := xTc4 201 rfl rfl
theorem q922 : (Jvm.Cond.constantLong "WeighedGate" (335 : Nat) (-4611686018427387904 : Int64)) ∈ xT0 := xTc4 202 rfl rfl
theorem q923 : (Jvm.Cond.methodLink "WeighedGate" (337 : Nat) ({ cls := "WeighedGate", name := "commonDivisor", desc := "(II)I" } : Jvm.MethodName)) ∈ xT0 := xTc4 203 rfl rfl
theorem q924 : (Jvm.Cond.static ({ cls := "WeighedGate", name := "commonDivisor", desc := "(II)I" } : Jvm.MethodName)) ∈ xT0 := xTc4 204 rfl rfl
theorem q925 : (Jvm.Cond.code ({ cls := "WeighedGate", name := "commonDivisor", desc := "(II)I" } : Jvm.MethodName) prog_1_method_48_code (3 : Nat) (Option.some Jvm.ClassFile.FieldType.int)) ∈ xT0 := xTc4 205 rfl rfl
theorem q926 : (Jvm.Cond.methodLink "WeighedGateLaw" (149 : Nat) ({ cls := "WeighedGate", name := "image", desc := "()I" } : Jvm.MethodName)) ∈ xT0 := xTc4 206 rfl rfl
theorem q927 : (Jvm.Cond.instanceMethod ({ cls := "WeighedGate", name := "image", desc := "()I" } : Jvm.MethodName)) ∈ xT0 := xTc4 207 rfl rfl
theorem q928 : (Jvm.Cond.selects "WeighedGate" ({ cls := "WeighedGate", name := "image", desc := "()I" } : Jvm.MethodName) ({ cls := "WeighedGate", name := "image", desc := "()I" } : Jvm.MethodName)) ∈ xT0 := xTc4 208 rfl rfl
theorem q929 : (Jvm.Cond.code ({ cls := "WeighedGate", name := "image", desc := "()I" } : Jvm.MethodName) prog_1_method_34_code (1 : Nat) (Option.some Jvm.ClassFile.FieldType.int)) ∈ xT0 := xTc4 209 rfl rfl
theorem q930 : (Jvm.Cond.methodLink "WeighedGate" (340 : Nat) ({ cls := "WeighedGate$Image", name := "keep", desc := "(LWeighedGate$Scale;LWeighedGate$Yard;I)V" } : Jvm.MethodName)) ∈ xT0 := xTc4 210 rfl rfl
theorem q931 : (Jvm.Cond.instanceMethod ({ cls := "WeighedGate$Image", name := "keep", desc := "(LWeighedGate$Scale;LWeighedGate$Yard;I)V" } : Jvm.MethodName)) ∈ xT0 := xTc4 211 rfl rfl
theorem q932 : (Jvm.Cond.selects "WeighedGate$Image" ({ cls := "WeighedGate$Image", name := "keep", desc := "(LWeighedGate$Scale;LWeighedGate$Yard;I)V" } : Jvm.MethodName) ({ cls := "WeighedGate$Image", name := "keep", desc := "(LWeighedGate$Scale;LWeighedGate$Yard;I)V" } : Jvm.MethodName)) ∈ xT0 := xTc4 212 rfl rfl
theorem q933 : (Jvm.Cond.code ({ cls := "WeighedGate$Image", name := "keep", desc := "(LWeighedGate$Scale;LWeighedGate$Yard;I)V" } : Jvm.MethodName) prog_4_method_2_code (5 : Nat) (Option.none : Option Jvm.ClassFile.FieldType)) ∈ xT0 := xTc4 213 rfl rfl
theorem q934 : (Jvm.Cond.methodLink "WeighedGate$Image" (35 : Nat) ({ cls := "java/lang/System", name := "arraycopy", desc := "(Ljava/lang/Object;ILjava/lang/Object;II)V" } : Jvm.MethodName)) ∈ xT0 := xTc4 214 rfl rfl
theorem q935 : (Jvm.Cond.methodLink "WeighedGateLaw" (153 : Nat) ({ cls := "WeighedGate", name := "back", desc := "()I" } : Jvm.MethodName)) ∈ xT0 := xTc4 215 rfl rfl
theorem q936 : (Jvm.Cond.instanceMethod ({ cls := "WeighedGate", name := "back", desc := "()I" } : Jvm.MethodName)) ∈ xT0 := xTc4 216 rfl rfl
theorem q937 : (Jvm.Cond.selects "WeighedGate" ({ cls := "WeighedGate", name := "back", desc := "()I" } : Jvm.MethodName) ({ cls := "WeighedGate", name := "back", desc := "()I" } : Jvm.MethodName)) ∈ xT0 := xTc4 217 rfl rfl
theorem q938 : (Jvm.Cond.code ({ cls := "WeighedGate", name := "back", desc := "()I" } : Jvm.MethodName) prog_1_method_35_code (1 : Nat) (Option.some Jvm.ClassFile.FieldType.int)) ∈ xT0 := xTc4 218 rfl rfl
theorem q939 : (Jvm.Cond.methodLink "WeighedGate" (348 : Nat) ({ cls := "WeighedGate$Image", name := "giveBack", desc := "(LWeighedGate$Scale;LWeighedGate$Yard;)V" } : Jvm.MethodName)) ∈ xT0 := xTc4 219 rfl rfl
theorem q940 : (Jvm.Cond.instanceMethod ({ cls := "WeighedGate$Image", name := "giveBack", desc := "(LWeighedGate$Scale;LWeighedGate$Yard;)V" } : Jvm.MethodName)) ∈ xT0 := xTc4 220 rfl rfl
theorem q941 : (Jvm.Cond.selects "WeighedGate$Image" ({ cls := "WeighedGate$Image", name := "giveBack", desc := "(LWeighedGate$Scale;LWeighedGate$Yard;)V" } : Jvm.MethodName) ({ cls := "WeighedGate$Image", name := "giveBack", desc := "(LWeighedGate$Scale;LWeighedGate$Yard;)V" } : Jvm.MethodName)) ∈ xT0 := xTc4 221 rfl rfl
theorem q942 : (Jvm.Cond.code ({ cls := "WeighedGate$Image", name := "giveBack", desc := "(LWeighedGate$Scale;LWeighedGate$Yard;)V" } : Jvm.MethodName) prog_4_method_3_code (4 : Nat) (Option.none : Option Jvm.ClassFile.FieldType)) ∈ xT0 := xTc4 222 rfl rfl
theorem q943 : (Jvm.Cond.methodLink "WeighedGate$Image" (63 : Nat) ({ cls := "WeighedGate$Scale", name := "layAll", desc := "()V" } : Jvm.MethodName)) ∈ xT0 := xTc4 223 rfl rfl
theorem q944 : (Jvm.Cond.methodLink "WeighedGateLaw" (157 : Nat) ({ cls := "WeighedGate", name := "sheet", desc := "(III)I" } : Jvm.MethodName)) ∈ xT0 := xTc4 224 rfl rfl
theorem q945 : (Jvm.Cond.instanceMethod ({ cls := "WeighedGate", name := "sheet", desc := "(III)I" } : Jvm.MethodName)) ∈ xT0 := xTc4 225 rfl rfl
theorem q946 : (Jvm.Cond.selects "WeighedGate" ({ cls := "WeighedGate", name := "sheet", desc := "(III)I" } : Jvm.MethodName) ({ cls := "WeighedGate", name := "sheet", desc := "(III)I" } : Jvm.MethodName)) ∈ xT0 := xTc4 226 rfl rfl
theorem q947 : (Jvm.Cond.code ({ cls := "WeighedGate", name := "sheet", desc := "(III)I" } : Jvm.MethodName) prog_1_method_36_code (4 : Nat) (Option.some Jvm.ClassFile.FieldType.int)) ∈ xT0 := xTc4 227 rfl rfl
theorem q948 : (Jvm.Cond.methodLink "WeighedGateLaw" (161 : Nat) ({ cls := "WeighedGate", name := "cell", desc := "(III)I" } : Jvm.MethodName)) ∈ xT0 := xTc4 228 rfl rfl
theorem q949 : (Jvm.Cond.instanceMethod ({ cls := "WeighedGate", name := "cell", desc := "(III)I" } : Jvm.MethodName)) ∈ xT0 := xTc4 229 rfl rfl
theorem q950 : (Jvm.Cond.selects "WeighedGate" ({ cls := "WeighedGate", name := "cell", desc := "(III)I" } : Jvm.MethodName) ({ cls := "WeighedGate", name := "cell", desc := "(III)I" } : Jvm.MethodName)) ∈ xT0 := xTc4 230 rfl rfl
theorem q951 : (Jvm.Cond.code ({ cls := "WeighedGate", name := "cell", desc := "(III)I" } : Jvm.MethodName) prog_1_method_37_code (5 : Nat) (Option.some Jvm.ClassFile.FieldType.int)) ∈ xT0 := xTc4 231 rfl rfl
theorem q952 : (Jvm.Cond.methodLink "WeighedGateLaw" (165 : Nat) ({ cls := "WeighedGate", name := "copy", desc := "(IIIII)I" } : Jvm.MethodName)) ∈ xT0 := xTc4 232 rfl rfl
theorem q953 : (Jvm.Cond.instanceMethod ({ cls := "WeighedGate", name := "copy", desc := "(IIIII)I" } : Jvm.MethodName)) ∈ xT0 := xTc4 233 rfl rfl
theorem q954 : (Jvm.Cond.selects "WeighedGate" ({ cls := "WeighedGate", name := "copy", desc := "(IIIII)I" } : Jvm.MethodName) ({ cls := "WeighedGate", name := "copy", desc := "(IIIII)I" } : Jvm.MethodName)) ∈ xT0 := xTc4 234 rfl rfl
theorem q955 : (Jvm.Cond.code ({ cls := "WeighedGate", name := "copy", desc := "(IIIII)I" } : Jvm.MethodName) prog_1_method_38_code (8 : Nat) (Option.some Jvm.ClassFile.FieldType.int)) ∈ xT0 := xTc4 235 rfl rfl
theorem q956 : (Jvm.Cond.methodLink "WeighedGate" (355 : Nat) ({ cls := "WeighedGate$Sheet", name := "holds", desc := "(II)Z" } : Jvm.MethodName)) ∈ xT0 := xTc4 236 rfl rfl
theorem q957 : (Jvm.Cond.instanceMethod ({ cls := "WeighedGate$Sheet", name := "holds", desc := "(II)Z" } : Jvm.MethodName)) ∈ xT0 := xTc4 237 rfl rfl
theorem q958 : (Jvm.Cond.selects "WeighedGate$Sheet" ({ cls := "WeighedGate$Sheet", name := "holds", desc := "(II)Z" } : Jvm.MethodName) ({ cls := "WeighedGate$Sheet", name := "holds", desc := "(II)Z" } : Jvm.MethodName)) ∈ xT0 := xTc4 238 rfl rfl
theorem q959 : (Jvm.Cond.code ({ cls := "WeighedGate$Sheet", name := "holds", desc := "(II)Z" } : Jvm.MethodName) prog_8_method_4_code (3 : Nat) (Option.some Jvm.ClassFile.FieldType.boolean)) ∈ xT0 := xTc4 239 rfl rfl
theorem q960 : (Jvm.Cond.methodLink "WeighedGate" (358 : Nat) ({ cls := "java/lang/System", name := "arraycopy", desc := "(Ljava/lang/Object;ILjava/lang/Object;II)V" } : Jvm.MethodName)) ∈ xT0 := xTc5 0 rfl rfl
theorem q961 : (Jvm.Cond.methodLink "WeighedGateLaw" (169 : Nat) ({ cls := "WeighedGate", name := "cartsBy", desc := "(IIII)I" } : Jvm.MethodName)) ∈ xT0 := xTc5 1 rfl rfl
theorem q962 : (Jvm.Cond.instanceMethod ({ cls := "WeighedGate", name := "cartsBy", desc := "(IIII)I" } : Jvm.MethodName)) ∈ xT0 := xTc5 2 rfl rfl
theorem q963 : (Jvm.Cond.selects "WeighedGate" ({ cls := "WeighedGate", name := "cartsBy", desc := "(IIII)I" } : Jvm.MethodName) ({ cls := "WeighedGate", name := "cartsBy", desc := "(IIII)I" } : Jvm.MethodName)) ∈ xT0 := xTc5 3 rfl rfl
theorem q964 : (Jvm.Cond.code ({ cls := "WeighedGate", name := "cartsBy", desc := "(IIII)I" } : Jvm.MethodName) prog_1_method_39_code (10 : Nat) (Option.some Jvm.ClassFile.FieldType.int)) ∈ xT0 := xTc5 4 rfl rfl
theorem q965 : (Jvm.Cond.methodLink "WeighedGate" (364 : Nat) ({ cls := "WeighedGate", name := "cart", desc := "(IIIII)I" } : Jvm.MethodName)) ∈ xT0 := xTc5 5 rfl rfl
theorem q966 : (Jvm.Cond.methodLink "WeighedGateLaw" (173 : Nat) ({ cls := "WeighedGate", name := "taken", desc := "(II)I" } : Jvm.MethodName)) ∈ xT0 := xTc5 6 rfl rfl
theorem q967 : (Jvm.Cond.instanceMethod ({ cls := "WeighedGate", name := "taken", desc := "(II)I" } : Jvm.MethodName)) ∈ xT0 := xTc5 7 rfl rfl
theorem q968 : (Jvm.Cond.selects "WeighedGate" ({ cls := "WeighedGate", name := "taken", desc := "(II)I" } : Jvm.MethodName) ({ cls := "WeighedGate", name := "taken", desc := "(II)I" } : Jvm.MethodName)) ∈ xT0 := xTc5 8 rfl rfl
theorem q969 : (Jvm.Cond.code ({ cls := "WeighedGate", name := "taken", desc := "(II)I" } : Jvm.MethodName) prog_1_method_40_code (4 : Nat) (Option.some Jvm.ClassFile.FieldType.int)) ∈ xT0 := xTc5 9 rfl rfl
theorem q970 : (Jvm.Cond.methodLink "WeighedGate" (368 : Nat) ({ cls := "WeighedGate$Cart", name := "isA", desc := "(I)Z" } : Jvm.MethodName)) ∈ xT0 := xTc5 10 rfl rfl
theorem q971 : (Jvm.Cond.instanceMethod ({ cls := "WeighedGate$Cart", name := "isA", desc := "(I)Z" } : Jvm.MethodName)) ∈ xT0 := xTc5 11 rfl rfl
theorem q972 : (Jvm.Cond.selects "WeighedGate$Cart" ({ cls := "WeighedGate$Cart", name := "isA", desc := "(I)Z" } : Jvm.MethodName) ({ cls := "WeighedGate$Cart", name := "isA", desc := "(I)Z" } : Jvm.MethodName)) ∈ xT0 := xTc5 12 rfl rfl
theorem q973 : (Jvm.Cond.code ({ cls := "WeighedGate$Cart", name := "isA", desc := "(I)Z" } : Jvm.MethodName) prog_2_method_6_code (2 : Nat) (Option.some Jvm.ClassFile.FieldType.boolean)) ∈ xT0 := xTc5 13 rfl rfl
theorem q974 : (Jvm.Cond.classLink "WeighedGateLaw" (10 : Nat) "WeighedGateModel") ∈ xT0 := xTc5 14 rfl rfl
theorem q975 : (Jvm.Cond.instantiable "WeighedGateModel" (61 : Nat)) ∈ xT0 := xTc5 15 rfl rfl
theorem q976 : (Jvm.Cond.methodLink "WeighedGateLaw" (12 : Nat) ({ cls := "WeighedGateModel", name := "<init>", desc := "()V" } : Jvm.MethodName)) ∈ xT0 := xTc5 16 rfl rfl
theorem q977 : (Jvm.Cond.instanceMethod ({ cls := "WeighedGateModel", name := "<init>", desc := "()V" } : Jvm.MethodName)) ∈ xT0 := xTc5 17 rfl rfl
theorem q978 : (Jvm.Cond.code ({ cls := "WeighedGateModel", name := "<init>", desc := "()V" } : Jvm.MethodName) prog_13_method_1_code (2 : Nat) (Option.none : Option Jvm.ClassFile.FieldType)) ∈ xT0 := xTc5 18 rfl rfl
theorem q979 : (Jvm.Cond.methodLink "WeighedGateModel" (1 : Nat) ({ cls := "java/lang/Object", name := "<init>", desc := "()V" } : Jvm.MethodName)) ∈ xT0 := xTc5 19 rfl rfl
theorem q980 : (Jvm.Cond.methodLink "WeighedGateModel" (107 : Nat) ({ cls := "WeighedGateModel", name := "text", desc := "()I" } : Jvm.MethodName)) ∈ xT0 := xTc5 20 rfl rfl
theorem q981 : (Jvm.Cond.instanceMethod ({ cls := "WeighedGateModel", name := "text", desc := "()I" } : Jvm.MethodName)) ∈ xT0 := xTc5 21 rfl rfl
theorem q982 : (Jvm.Cond.selects "WeighedGateModel" ({ cls := "WeighedGateModel", name := "text", desc := "()I" } : Jvm.MethodName) ({ cls := "WeighedGateModel", name := "text", desc := "()I" } : Jvm.MethodName)) ∈ xT0 := xTc5 22 rfl rfl
theorem q983 : (Jvm.Cond.code ({ cls := "WeighedGateModel", name := "text", desc := "()I" } : Jvm.MethodName) prog_13_method_27_code (3 : Nat) (Option.some Jvm.ClassFile.FieldType.int)) ∈ xT0 := xTc5 23 rfl rfl
theorem q984 : (Jvm.Cond.methodLink "WeighedGateModel" (170 : Nat) ({ cls := "WeighedGateModel", name := "next", desc := "()V" } : Jvm.MethodName)) ∈ xT0 := xTc5 24 rfl rfl
theorem q986 : (Jvm.Cond.instanceMethod ({ cls := "WeighedGateModel", name := "next", desc := "()V" } : Jvm.MethodName)) ∈ xT0 := xTc5 26 rfl rfl
theorem q987 : (Jvm.Cond.code ({ cls := "WeighedGateModel", name := "next", desc := "()V" } : Jvm.MethodName) prog_13_method_18_code (3 : Nat) (Option.none : Option Jvm.ClassFile.FieldType)) ∈ xT0 := xTc5 27 rfl rfl
theorem q988 : (Jvm.Cond.methodLink "WeighedGateModel" (114 : Nat) ({ cls := "WeighedGateModel", name := "in", desc := "(III)Z" } : Jvm.MethodName)) ∈ xT0 := xTc5 28 rfl rfl
theorem q989 : (Jvm.Cond.static ({ cls := "WeighedGateModel", name := "in", desc := "(III)Z" } : Jvm.MethodName)) ∈ xT0 := xTc5 29 rfl rfl
theorem q990 : (Jvm.Cond.code ({ cls := "WeighedGateModel", name := "in", desc := "(III)Z" } : Jvm.MethodName) prog_13_method_3_code (3 : Nat) (Option.some Jvm.ClassFile.FieldType.boolean)) ∈ xT0 := xTc5 30 rfl rfl
theorem q991 : (Jvm.Cond.methodLink "WeighedGateModel" (143 : Nat) ({ cls := "WeighedGateModel", name := "wordFrom", desc := "(II)I" } : Jvm.MethodName)) ∈ xT0 := xTc5 31 rfl rfl
theorem q993 : (Jvm.Cond.instanceMethod ({ cls := "WeighedGateModel", name := "wordFrom", desc := "(II)I" } : Jvm.MethodName)) ∈ xT0 := xTc5 33 rfl rfl
theorem q994 : (Jvm.Cond.code ({ cls := "WeighedGateModel", name := "wordFrom", desc := "(II)I" } : Jvm.MethodName) prog_13_method_17_code (6 : Nat) (Option.some Jvm.ClassFile.FieldType.int)) ∈ xT0 := xTc5 34 rfl rfl
theorem q995 : (Jvm.Cond.methodLink "WeighedGateModel" (183 : Nat) ({ cls := "WeighedGateModel", name := "eRead", desc := "()Z" } : Jvm.MethodName)) ∈ xT0 := xTc5 35 rfl rfl
theorem q997 : (Jvm.Cond.instanceMethod ({ cls := "WeighedGateModel", name := "eRead", desc := "()Z" } : Jvm.MethodName)) ∈ xT0 := xTc5 37 rfl rfl
theorem q998 : (Jvm.Cond.code ({ cls := "WeighedGateModel", name := "eRead", desc := "()Z" } : Jvm.MethodName) prog_13_method_26_code (4 : Nat) (Option.some Jvm.ClassFile.FieldType.boolean)) ∈ xT0 := xTc5 38 rfl rfl
theorem q999 : (Jvm.Cond.constant "WeighedGateModel" (173 : Nat) (100000 : Int32)) ∈ xT0 := xTc5 39 rfl rfl
theorem q1000 : (Jvm.Cond.methodLink "WeighedGateModel" (160 : Nat) ({ cls := "WeighedGateModel", name := "puts", desc := "(I)V" } : Jvm.MethodName)) ∈ xT0 := xTc5 40 rfl rfl
theorem q1002 : (Jvm.Cond.instanceMethod ({ cls := "WeighedGateModel", name := "puts", desc := "(I)V" } : Jvm.MethodName)) ∈ xT0 := xTc5 42 rfl rfl
theorem q1003 : (Jvm.Cond.code ({ cls := "WeighedGateModel", name := "puts", desc := "(I)V" } : Jvm.MethodName) prog_13_method_20_code (2 : Nat) (Option.none : Option Jvm.ClassFile.FieldType)) ∈ xT0 := xTc5 43 rfl rfl
theorem q1004 : (Jvm.Cond.methodLink "WeighedGateModel" (167 : Nat) ({ cls := "WeighedGateModel", name := "unwinds", desc := "(I)V" } : Jvm.MethodName)) ∈ xT0 := xTc5 44 rfl rfl
theorem q1006 : (Jvm.Cond.instanceMethod ({ cls := "WeighedGateModel", name := "unwinds", desc := "(I)V" } : Jvm.MethodName)) ∈ xT0 := xTc5 46 rfl rfl
theorem q1007 : (Jvm.Cond.code ({ cls := "WeighedGateModel", name := "unwinds", desc := "(I)V" } : Jvm.MethodName) prog_13_method_21_code (3 : Nat) (Option.none : Option Jvm.ClassFile.FieldType)) ∈ xT0 := xTc5 47 rfl rfl
theorem q1008 : (Jvm.Cond.methodLink "WeighedGateModel" (153 : Nat) ({ cls := "WeighedGateModel", name := "rank", desc := "(I)I" } : Jvm.MethodName)) ∈ xT0 := xTc5 48 rfl rfl
theorem q1009 : (Jvm.Cond.static ({ cls := "WeighedGateModel", name := "rank", desc := "(I)I" } : Jvm.MethodName)) ∈ xT0 := xTc5 49 rfl rfl
theorem q1010 : (Jvm.Cond.code ({ cls := "WeighedGateModel", name := "rank", desc := "(I)I" } : Jvm.MethodName) prog_13_method_19_code (1 : Nat) (Option.some Jvm.ClassFile.FieldType.int)) ∈ xT0 := xTc5 50 rfl rfl
theorem q1011 : (Jvm.Cond.methodLink "WeighedGateModel" (174 : Nat) ({ cls := "WeighedGateModel", name := "opensOne", desc := "(I)Z" } : Jvm.MethodName)) ∈ xT0 := xTc5 51 rfl rfl
theorem q1013 : (Jvm.Cond.instanceMethod ({ cls := "WeighedGateModel", name := "opensOne", desc := "(I)Z" } : Jvm.MethodName)) ∈ xT0 := xTc5 53 rfl rfl
theorem q1014 : (Jvm.Cond.code ({ cls := "WeighedGateModel", name := "opensOne", desc := "(I)Z" } : Jvm.MethodName) prog_13_method_23_code (2 : Nat) (Option.some Jvm.ClassFile.FieldType.boolean)) ∈ xT0 := xTc5 54 rfl rfl
theorem q1015 : (Jvm.Cond.methodLink "WeighedGateModel" (164 : Nat) ({ cls := "WeighedGateModel", name := "holds", desc := "(I)V" } : Jvm.MethodName)) ∈ xT0 := xTc5 55 rfl rfl
theorem q1017 : (Jvm.Cond.instanceMethod ({ cls := "WeighedGateModel", name := "holds", desc := "(I)V" } : Jvm.MethodName)) ∈ xT0 := xTc5 57 rfl rfl
theorem q1018 : (Jvm.Cond.code ({ cls := "WeighedGateModel", name := "holds", desc := "(I)V" } : Jvm.MethodName) prog_13_method_22_code (2 : Nat) (Option.none : Option Jvm.ClassFile.FieldType)) ∈ xT0 := xTc5 58 rfl rfl
theorem q1019 : (Jvm.Cond.methodLink "WeighedGateModel" (177 : Nat) ({ cls := "WeighedGateModel", name := "signOf", desc := "()I" } : Jvm.MethodName)) ∈ xT0 := xTc5 59 rfl rfl
theorem q1021 : (Jvm.Cond.instanceMethod ({ cls := "WeighedGateModel", name := "signOf", desc := "()I" } : Jvm.MethodName)) ∈ xT0 := xTc5 61 rfl rfl
theorem q1022 : (Jvm.Cond.code ({ cls := "WeighedGateModel", name := "signOf", desc := "()I" } : Jvm.MethodName) prog_13_method_25_code (1 : Nat) (Option.some Jvm.ClassFile.FieldType.int)) ∈ xT0 := xTc5 62 rfl rfl
theorem q1023 : (Jvm.Cond.methodLink "WeighedGateModel" (180 : Nat) ({ cls := "WeighedGateModel", name := "between", desc := "(I)Z" } : Jvm.MethodName)) ∈ xT0 := xTc5 63 rfl rfl
theorem q1025 : (Jvm.Cond.instanceMethod ({ cls := "WeighedGateModel", name := "between", desc := "(I)Z" } : Jvm.MethodName)) ∈ xT0 := xTc5 65 rfl rfl
theorem q1026 : (Jvm.Cond.code ({ cls := "WeighedGateModel", name := "between", desc := "(I)Z" } : Jvm.MethodName) prog_13_method_24_code (2 : Nat) (Option.some Jvm.ClassFile.FieldType.boolean)) ∈ xT0 := xTc5 66 rfl rfl
theorem q1027 : (Jvm.Cond.fieldLink "WeighedGateModel" (7 : Nat) "WeighedGateModel" "scaleOf" "[I") ∈ xT0 := xTc5 67 rfl rfl
theorem q1028 : (Jvm.Cond.fieldLink "WeighedGateModel" (118 : Nat) "WeighedGateModel" "stones" "I") ∈ xT0 := xTc5 68 rfl rfl
theorem q1029 : (Jvm.Cond.fieldLink "WeighedGateModel" (13 : Nat) "WeighedGateModel" "stoneOf" "[I") ∈ xT0 := xTc5 69 rfl rfl
theorem q1030 : (Jvm.Cond.fieldLink "WeighedGateModel" (111 : Nat) "WeighedGateModel" "carts" "I") ∈ xT0 := xTc5 70 rfl rfl
theorem q1031 : (Jvm.Cond.fieldLink "WeighedGateModel" (16 : Nat) "WeighedGateModel" "inward" "[I") ∈ xT0 := xTc5 71 rfl rfl
theorem q1032 : (Jvm.Cond.fieldLink "WeighedGateModel" (19 : Nat) "WeighedGateModel" "kind" "[I") ∈ xT0 := xTc5 72 rfl rfl
theorem q1033 : (Jvm.Cond.fieldLink "WeighedGateModel" (22 : Nat) "WeighedGateModel" "weightOf" "[I") ∈ xT0 := xTc5 73 rfl rfl
theorem q1034 : (Jvm.Cond.fieldLink "WeighedGateModel" (25 : Nat) "WeighedGateModel" "valueOf" "[I") ∈ xT0 := xTc5 74 rfl rfl
theorem q1035 : (Jvm.Cond.fieldLink "WeighedGateModel" (28 : Nat) "WeighedGateModel" "moreOf" "[I") ∈ xT0 := xTc5 75 rfl rfl
theorem q1036 : (Jvm.Cond.fieldLink "WeighedGateModel" (31 : Nat) "WeighedGateModel" "comesAt" "[I") ∈ xT0 := xTc5 76 rfl rfl
theorem q1037 : (Jvm.Cond.fieldLink "WeighedGateModel" (34 : Nat) "WeighedGateModel" "tape" "[I") ∈ xT0 := xTc5 77 rfl rfl
theorem q1038 : (Jvm.Cond.fieldLink "WeighedGateModel" (104 : Nat) "WeighedGateModel" "taped" "I") ∈ xT0 := xTc5 78 rfl rfl
theorem q1039 : (Jvm.Cond.fieldLink "WeighedGateModel" (37 : Nat) "WeighedGateModel" "codes" "[I") ∈ xT0 := xTc5 79 rfl rfl
theorem q1040 : (Jvm.Cond.fieldLink "WeighedGateModel" (40 : Nat) "WeighedGateModel" "starts" "[I") ∈ xT0 := xTc5 80 rfl rfl
theorem q1041 : (Jvm.Cond.fieldLink "WeighedGateModel" (121 : Nat) "WeighedGateModel" "texts" "I") ∈ xT0 := xTc5 81 rfl rfl
theorem q1042 : (Jvm.Cond.fieldLink "WeighedGateModel" (124 : Nat) "WeighedGateModel" "rule" "I") ∈ xT0 := xTc5 82 rfl rfl
theorem q1043 : (Jvm.Cond.fieldLink "WeighedGateModel" (338 : Nat) "WeighedGateModel" "hasImage" "Z") ∈ xT0 := xTc5 83 rfl rfl
theorem q1044 : (Jvm.Cond.fieldLink "WeighedGateModel" (341 : Nat) "WeighedGateModel" "imageStones" "I") ∈ xT0 := xTc5 84 rfl rfl
theorem q1045 : (Jvm.Cond.fieldLink "WeighedGateModel" (344 : Nat) "WeighedGateModel" "imageCarts" "I") ∈ xT0 := xTc5 85 rfl rfl
theorem q1046 : (Jvm.Cond.fieldLink "WeighedGateModel" (347 : Nat) "WeighedGateModel" "imageRule" "I") ∈ xT0 := xTc5 86 rfl rfl
theorem q1047 : (Jvm.Cond.fieldLink "WeighedGateModel" (43 : Nat) "WeighedGateModel" "imageScale" "[I") ∈ xT0 := xTc5 87 rfl rfl
theorem q1048 : (Jvm.Cond.fieldLink "WeighedGateModel" (46 : Nat) "WeighedGateModel" "imageStone" "[I") ∈ xT0 := xTc5 88 rfl rfl
theorem q1049 : (Jvm.Cond.fieldLink "WeighedGateModel" (49 : Nat) "WeighedGateModel" "imageComes" "[I") ∈ xT0 := xTc5 89 rfl rfl
theorem q1050 : (Jvm.Cond.fieldLink "WeighedGateModel" (52 : Nat) "WeighedGateModel" "imageInward" "[I") ∈ xT0 := xTc5 90 rfl rfl
theorem q1051 : (Jvm.Cond.fieldLink "WeighedGateModel" (55 : Nat) "WeighedGateModel" "sheetSort" "[I") ∈ xT0 := xTc5 91 rfl rfl
theorem q1052 : (Jvm.Cond.fieldLink "WeighedGateModel" (58 : Nat) "WeighedGateModel" "sheetSize" "[I") ∈ xT0 := xTc5 92 rfl rfl
theorem q1053 : (Jvm.Cond.fieldLink "WeighedGateModel" (61 : Nat) "WeighedGateModel" "cells" "[I") ∈ xT0 := xTc5 93 rfl rfl
theorem q1054 : (Jvm.Cond.fieldLink "WeighedGateModel" (64 : Nat) "WeighedGateModel" "law" "[I") ∈ xT0 := xTc5 94 rfl rfl
theorem q1055 : (Jvm.Cond.fieldLink "WeighedGateModel" (131 : Nat) "WeighedGateModel" "at" "I") ∈ xT0 := xTc5 95 rfl rfl
theorem q1056 : (Jvm.Cond.fieldLink "WeighedGateModel" (134 : Nat) "WeighedGateModel" "begun" "I") ∈ xT0 := xTc5 96 rfl rfl
theorem q1057 : (Jvm.Cond.fieldLink "WeighedGateModel" (137 : Nat) "WeighedGateModel" "token" "I") ∈ xT0 := xTc5 97 rfl rfl
theorem q1058 : (Jvm.Cond.fieldLink "WeighedGateModel" (140 : Nat) "WeighedGateModel" "value" "I") ∈ xT0 := xTc5 98 rfl rfl
theorem q1059 : (Jvm.Cond.fieldLink "WeighedGateModel" (67 : Nat) "WeighedGateModel" "words" "[I") ∈ xT0 := xTc5 99 rfl rfl
theorem q1060 : (Jvm.Cond.fieldLink "WeighedGateModel" (70 : Nat) "WeighedGateModel" "held" "[I") ∈ xT0 := xTc5 100 rfl rfl
theorem q1061 : (Jvm.Cond.fieldLink "WeighedGateModel" (150 : Nat) "WeighedGateModel" "heldMany" "I") ∈ xT0 := xTc5 101 rfl rfl
theorem q1062 : (Jvm.Cond.fieldLink "WeighedGateModel" (157 : Nat) "WeighedGateModel" "opens" "I") ∈ xT0 := xTc5 102 rfl rfl
theorem q1063 : (Jvm.Cond.fieldLink "WeighedGateModel" (147 : Nat) "WeighedGateModel" "out" "I") ∈ xT0 := xTc5 103 rfl rfl
theorem q1064 : (Jvm.Cond.fieldLink "WeighedGateModel" (73 : Nat) "WeighedGateModel" "stack" "[I") ∈ xT0 := xTc5 104 rfl rfl
theorem q1065 : (Jvm.Cond.fieldLink "WeighedGateModel" (76 : Nat) "WeighedGateModel" "named" "[I") ∈ xT0 := xTc5 105 rfl rfl
theorem q1066 : (Jvm.Cond.fieldLink "WeighedGateModel" (79 : Nat) "WeighedGateModel" "made" "[I") ∈ xT0 := xTc5 106 rfl rfl
theorem q1067 : (Jvm.Cond.fieldLink "WeighedGateModel" (227 : Nat) "WeighedGateModel" "panIn" "I") ∈ xT0 := xTc5 107 rfl rfl
theorem q1068 : (Jvm.Cond.fieldLink "WeighedGateModel" (230 : Nat) "WeighedGateModel" "panOut" "I") ∈ xT0 := xTc5 108 rfl rfl
theorem q1069 : (Jvm.Cond.fieldLink "WeighedGateModel" (233 : Nat) "WeighedGateModel" "off" "I") ∈ xT0 := xTc5 109 rfl rfl
theorem q1070 : (Jvm.Cond.fieldLink "WeighedGateModel" (236 : Nat) "WeighedGateModel" "used" "I") ∈ xT0 := xTc5 110 rfl rfl
theorem q1071 : (Jvm.Cond.fieldLink "WeighedGateModel" (245 : Nat) "WeighedGateModel" "mayBe" "Z") ∈ xT0 := xTc5 111 rfl rfl
theorem q1072 : (Jvm.Cond.fieldLink "WeighedGateModel" (249 : Nat) "WeighedGateModel" "brings" "I") ∈ xT0 := xTc5 112 rfl rfl
theorem q1073 : (Jvm.Cond.fieldLink "WeighedGateModel" (82 : Nat) "WeighedGateModel" "bringing" "[I") ∈ xT0 := xTc5 113 rfl rfl
theorem q1074 : (Jvm.Cond.fieldLink "WeighedGateModel" (85 : Nat) "WeighedGateModel" "partner" "[I") ∈ xT0 := xTc5 114 rfl rfl
theorem q1075 : (Jvm.Cond.fieldLink "WeighedGateModel" (88 : Nat) "WeighedGateModel" "bestPartner" "[I") ∈ xT0 := xTc5 115 rfl rfl
theorem q1076 : (Jvm.Cond.fieldLink "WeighedGateModel" (260 : Nat) "WeighedGateModel" "mostPairs" "I") ∈ xT0 := xTc5 116 rfl rfl
theorem q1077 : (Jvm.Cond.fieldLink "WeighedGateModel" (263 : Nat) "WeighedGateModel" "mostBrings" "I") ∈ xT0 := xTc5 117 rfl rfl
theorem q1078 : (Jvm.Cond.fieldLink "WeighedGateModel" (276 : Nat) "WeighedGateModel" "bestSet" "I") ∈ xT0 := xTc5 118 rfl rfl
theorem q1079 : (Jvm.Cond.fieldLink "WeighedGateModel" (279 : Nat) "WeighedGateModel" "bestBrings" "I") ∈ xT0 := xTc5 119 rfl rfl
theorem q1080 : (Jvm.Cond.fieldLink "WeighedGateModel" (91 : Nat) "WeighedGateModel" "goesAt" "[I") ∈ xT0 := xTc5 120 rfl rfl
theorem q1081 : (Jvm.Cond.fieldLink "WeighedGateModel" (94 : Nat) "WeighedGateModel" "setAt" "[I") ∈ xT0 := xTc5 121 rfl rfl
theorem q1082 : (Jvm.Cond.fieldLink "WeighedGateModel" (291 : Nat) "WeighedGateModel" "through" "I") ∈ xT0 := xTc5 122 rfl rfl
theorem q1083 : (Jvm.Cond.fieldLink "WeighedGateModel" (294 : Nat) "WeighedGateModel" "earned" "I") ∈ xT0 := xTc5 123 rfl rfl
theorem q1084 : (Jvm.Cond.fieldLink "WeighedGateModel" (297 : Nat) "WeighedGateModel" "moreIn" "I") ∈ xT0 := xTc5 124 rfl rfl
theorem q1085 : (Jvm.Cond.fieldLink "WeighedGateModel" (97 : Nat) "WeighedGateModel" "skipped" "I") ∈ xT0 := xTc5 125 rfl rfl
theorem q1086 : (Jvm.Cond.fieldLink "WeighedGateModel" (288 : Nat) "WeighedGateModel" "absent" "I") ∈ xT0 := xTc5 126 rfl rfl
theorem q1087 : (Jvm.Cond.fieldLink "WeighedGateModel" (101 : Nat) "WeighedGateModel" "keptComes" "[I") ∈ xT0 := xTc5 127 rfl rfl
theorem q1088 : (Jvm.Cond.laysFinal "WeighedGateModel" "WeighedGateModel" "scaleOf" "[I") ∈ xT0 := xTc5 128 rfl rfl
theorem q1090 : (Jvm.Cond.lays "WeighedGateModel" "WeighedGateModel" "stones" "I") ∈ xT0 := xTc5 130 rfl rfl
theorem q1092 : (Jvm.Cond.laysFinal "WeighedGateModel" "WeighedGateModel" "stoneOf" "[I") ∈ xT0 := xTc5 132 rfl rfl
theorem q1094 : (Jvm.Cond.lays "WeighedGateModel" "WeighedGateModel" "carts" "I") ∈ xT0 := xTc5 134 rfl rfl
theorem q1096 : (Jvm.Cond.laysFinal "WeighedGateModel" "WeighedGateModel" "inward" "[I") ∈ xT0 := xTc5 136 rfl rfl
theorem q1098 : (Jvm.Cond.laysFinal "WeighedGateModel" "WeighedGateModel" "kind" "[I") ∈ xT0 := xTc5 138 rfl rfl
theorem q1100 : (Jvm.Cond.laysFinal "WeighedGateModel" "WeighedGateModel" "weightOf" "[I") ∈ xT0 := xTc5 140 rfl rfl
theorem q1102 : (Jvm.Cond.laysFinal "WeighedGateModel" "WeighedGateModel" "valueOf" "[I") ∈ xT0 := xTc5 142 rfl rfl
theorem q1104 : (Jvm.Cond.laysFinal "WeighedGateModel" "WeighedGateModel" "moreOf" "[I") ∈ xT0 := xTc5 144 rfl rfl
theorem q1106 : (Jvm.Cond.laysFinal "WeighedGateModel" "WeighedGateModel" "comesAt" "[I") ∈ xT0 := xTc5 146 rfl rfl
theorem q1108 : (Jvm.Cond.laysFinal "WeighedGateModel" "WeighedGateModel" "tape" "[I") ∈ xT0 := xTc5 148 rfl rfl
theorem q1110 : (Jvm.Cond.lays "WeighedGateModel" "WeighedGateModel" "taped" "I") ∈ xT0 := xTc5 150 rfl rfl
theorem q1112 : (Jvm.Cond.laysFinal "WeighedGateModel" "WeighedGateModel" "codes" "[I") ∈ xT0 := xTc5 152 rfl rfl
theorem q1114 : (Jvm.Cond.laysFinal "WeighedGateModel" "WeighedGateModel" "starts" "[I") ∈ xT0 := xTc5 154 rfl rfl
theorem q1116 : (Jvm.Cond.lays "WeighedGateModel" "WeighedGateModel" "texts" "I") ∈ xT0 := xTc5 156 rfl rfl
theorem q1118 : (Jvm.Cond.lays "WeighedGateModel" "WeighedGateModel" "rule" "I") ∈ xT0 := xTc5 158 rfl rfl
theorem q1120 : (Jvm.Cond.lays "WeighedGateModel" "WeighedGateModel" "hasImage" "Z") ∈ xT0 := xTc5 160 rfl rfl
theorem q1122 : (Jvm.Cond.lays "WeighedGateModel" "WeighedGateModel" "imageStones" "I") ∈ xT0 := xTc5 162 rfl rfl
theorem q1124 : (Jvm.Cond.lays "WeighedGateModel" "WeighedGateModel" "imageCarts" "I") ∈ xT0 := xTc5 164 rfl rfl
theorem q1126 : (Jvm.Cond.lays "WeighedGateModel" "WeighedGateModel" "imageRule" "I") ∈ xT0 := xTc5 166 rfl rfl
theorem q1128 : (Jvm.Cond.laysFinal "WeighedGateModel" "WeighedGateModel" "imageScale" "[I") ∈ xT0 := xTc5 168 rfl rfl
theorem q1130 : (Jvm.Cond.laysFinal "WeighedGateModel" "WeighedGateModel" "imageStone" "[I") ∈ xT0 := xTc5 170 rfl rfl
theorem q1132 : (Jvm.Cond.laysFinal "WeighedGateModel" "WeighedGateModel" "imageComes" "[I") ∈ xT0 := xTc5 172 rfl rfl
theorem q1134 : (Jvm.Cond.laysFinal "WeighedGateModel" "WeighedGateModel" "imageInward" "[I") ∈ xT0 := xTc5 174 rfl rfl
theorem q1136 : (Jvm.Cond.laysFinal "WeighedGateModel" "WeighedGateModel" "sheetSort" "[I") ∈ xT0 := xTc5 176 rfl rfl
theorem q1138 : (Jvm.Cond.laysFinal "WeighedGateModel" "WeighedGateModel" "sheetSize" "[I") ∈ xT0 := xTc5 178 rfl rfl
theorem q1140 : (Jvm.Cond.laysFinal "WeighedGateModel" "WeighedGateModel" "cells" "[I") ∈ xT0 := xTc5 180 rfl rfl
theorem q1142 : (Jvm.Cond.laysFinal "WeighedGateModel" "WeighedGateModel" "law" "[I") ∈ xT0 := xTc5 182 rfl rfl
theorem q1144 : (Jvm.Cond.lays "WeighedGateModel" "WeighedGateModel" "at" "I") ∈ xT0 := xTc5 184 rfl rfl
theorem q1146 : (Jvm.Cond.lays "WeighedGateModel" "WeighedGateModel" "begun" "I") ∈ xT0 := xTc5 186 rfl rfl
theorem q1148 : (Jvm.Cond.lays "WeighedGateModel" "WeighedGateModel" "token" "I") ∈ xT0 := xTc5 188 rfl rfl
theorem q1150 : (Jvm.Cond.lays "WeighedGateModel" "WeighedGateModel" "value" "I") ∈ xT0 := xTc5 190 rfl rfl
theorem q1152 : (Jvm.Cond.laysFinal "WeighedGateModel" "WeighedGateModel" "words" "[I") ∈ xT0 := xTc5 192 rfl rfl
theorem q1154 : (Jvm.Cond.laysFinal "WeighedGateModel" "WeighedGateModel" "held" "[I") ∈ xT0 := xTc5 194 rfl rfl
theorem q1156 : (Jvm.Cond.lays "WeighedGateModel" "WeighedGateModel" "heldMany" "I") ∈ xT0 := xTc5 196 rfl rfl
theorem q1158 : (Jvm.Cond.lays "WeighedGateModel" "WeighedGateModel" "opens" "I") ∈ xT0 := xTc5 198 rfl rfl
theorem q1160 : (Jvm.Cond.lays "WeighedGateModel" "WeighedGateModel" "out" "I") ∈ xT0 := xTc5 200 rfl rfl
theorem q1162 : (Jvm.Cond.laysFinal "WeighedGateModel" "WeighedGateModel" "stack" "[I") ∈ xT0 := xTc5 202 rfl rfl
theorem q1164 : (Jvm.Cond.laysFinal "WeighedGateModel" "WeighedGateModel" "named" "[I") ∈ xT0 := xTc5 204 rfl rfl
theorem q1166 : (Jvm.Cond.laysFinal "WeighedGateModel" "WeighedGateModel" "made" "[I") ∈ xT0 := xTc5 206 rfl rfl
theorem q1168 : (Jvm.Cond.lays "WeighedGateModel" "WeighedGateModel" "panIn" "I") ∈ xT0 := xTc5 208 rfl rfl
theorem q1170 : (Jvm.Cond.lays "WeighedGateModel" "WeighedGateModel" "panOut" "I") ∈ xT0 := xTc5 210 rfl rfl
theorem q1172 : (Jvm.Cond.lays "WeighedGateModel" "WeighedGateModel" "off" "I") ∈ xT0 := xTc5 212 rfl rfl
theorem q1174 : (Jvm.Cond.lays "WeighedGateModel" "WeighedGateModel" "used" "I") ∈ xT0 := xTc5 214 rfl rfl
theorem q1176 : (Jvm.Cond.lays "WeighedGateModel" "WeighedGateModel" "mayBe" "Z") ∈ xT0 := xTc5 216 rfl rfl
theorem q1178 : (Jvm.Cond.lays "WeighedGateModel" "WeighedGateModel" "brings" "I") ∈ xT0 := xTc5 218 rfl rfl
theorem q1180 : (Jvm.Cond.laysFinal "WeighedGateModel" "WeighedGateModel" "bringing" "[I") ∈ xT0 := xTc5 220 rfl rfl
theorem q1182 : (Jvm.Cond.laysFinal "WeighedGateModel" "WeighedGateModel" "partner" "[I") ∈ xT0 := xTc5 222 rfl rfl
theorem q1184 : (Jvm.Cond.laysFinal "WeighedGateModel" "WeighedGateModel" "bestPartner" "[I") ∈ xT0 := xTc5 224 rfl rfl
theorem q1186 : (Jvm.Cond.lays "WeighedGateModel" "WeighedGateModel" "mostPairs" "I") ∈ xT0 := xTc5 226 rfl rfl
theorem q1188 : (Jvm.Cond.lays "WeighedGateModel" "WeighedGateModel" "mostBrings" "I") ∈ xT0 := xTc5 228 rfl rfl
theorem q1190 : (Jvm.Cond.lays "WeighedGateModel" "WeighedGateModel" "bestSet" "I") ∈ xT0 := xTc5 230 rfl rfl
theorem q1192 : (Jvm.Cond.lays "WeighedGateModel" "WeighedGateModel" "bestBrings" "I") ∈ xT0 := xTc5 232 rfl rfl
theorem q1194 : (Jvm.Cond.laysFinal "WeighedGateModel" "WeighedGateModel" "goesAt" "[I") ∈ xT0 := xTc5 234 rfl rfl
theorem q1196 : (Jvm.Cond.laysFinal "WeighedGateModel" "WeighedGateModel" "setAt" "[I") ∈ xT0 := xTc5 236 rfl rfl
theorem q1198 : (Jvm.Cond.lays "WeighedGateModel" "WeighedGateModel" "through" "I") ∈ xT0 := xTc5 238 rfl rfl
theorem q1200 : (Jvm.Cond.lays "WeighedGateModel" "WeighedGateModel" "earned" "I") ∈ xT0 := xTc6 0 rfl rfl
theorem q1202 : (Jvm.Cond.lays "WeighedGateModel" "WeighedGateModel" "moreIn" "I") ∈ xT0 := xTc6 2 rfl rfl
theorem q1204 : (Jvm.Cond.lays "WeighedGateModel" "WeighedGateModel" "skipped" "I") ∈ xT0 := xTc6 4 rfl rfl
theorem q1206 : (Jvm.Cond.lays "WeighedGateModel" "WeighedGateModel" "absent" "I") ∈ xT0 := xTc6 6 rfl rfl
theorem q1208 : (Jvm.Cond.laysFinal "WeighedGateModel" "WeighedGateModel" "keptComes" "[I") ∈ xT0 := xTc6 8 rfl rfl
theorem q1211 : (Jvm.Cond.methodLink "WeighedGateLaw" (17 : Nat) ({ cls := "WeighedGateModel", name := "scale", desc := "(II)I" } : Jvm.MethodName)) ∈ xT0 := xTc6 11 rfl rfl
theorem q1212 : (Jvm.Cond.instanceMethod ({ cls := "WeighedGateModel", name := "scale", desc := "(II)I" } : Jvm.MethodName)) ∈ xT0 := xTc6 12 rfl rfl
theorem q1213 : (Jvm.Cond.selects "WeighedGateModel" ({ cls := "WeighedGateModel", name := "scale", desc := "(II)I" } : Jvm.MethodName) ({ cls := "WeighedGateModel", name := "scale", desc := "(II)I" } : Jvm.MethodName)) ∈ xT0 := xTc6 13 rfl rfl
theorem q1214 : (Jvm.Cond.code ({ cls := "WeighedGateModel", name := "scale", desc := "(II)I" } : Jvm.MethodName) prog_13_method_10_code (4 : Nat) (Option.some Jvm.ClassFile.FieldType.int)) ∈ xT0 := xTc6 14 rfl rfl
theorem q1215 : (Jvm.Cond.methodLink "WeighedGateLaw" (22 : Nat) ({ cls := "WeighedGateModel", name := "stone", desc := "(I)I" } : Jvm.MethodName)) ∈ xT0 := xTc6 15 rfl rfl
theorem q1216 : (Jvm.Cond.instanceMethod ({ cls := "WeighedGateModel", name := "stone", desc := "(I)I" } : Jvm.MethodName)) ∈ xT0 := xTc6 16 rfl rfl
theorem q1217 : (Jvm.Cond.selects "WeighedGateModel" ({ cls := "WeighedGateModel", name := "stone", desc := "(I)I" } : Jvm.MethodName) ({ cls := "WeighedGateModel", name := "stone", desc := "(I)I" } : Jvm.MethodName)) ∈ xT0 := xTc6 17 rfl rfl
theorem q1218 : (Jvm.Cond.code ({ cls := "WeighedGateModel", name := "stone", desc := "(I)I" } : Jvm.MethodName) prog_13_method_11_code (2 : Nat) (Option.some Jvm.ClassFile.FieldType.int)) ∈ xT0 := xTc6 18 rfl rfl
theorem q1219 : (Jvm.Cond.methodLink "WeighedGateLaw" (27 : Nat) ({ cls := "WeighedGateModel", name := "sell", desc := "()I" } : Jvm.MethodName)) ∈ xT0 := xTc6 19 rfl rfl
theorem q1220 : (Jvm.Cond.instanceMethod ({ cls := "WeighedGateModel", name := "sell", desc := "()I" } : Jvm.MethodName)) ∈ xT0 := xTc6 20 rfl rfl
theorem q1221 : (Jvm.Cond.selects "WeighedGateModel" ({ cls := "WeighedGateModel", name := "sell", desc := "()I" } : Jvm.MethodName) ({ cls := "WeighedGateModel", name := "sell", desc := "()I" } : Jvm.MethodName)) ∈ xT0 := xTc6 21 rfl rfl
theorem q1222 : (Jvm.Cond.code ({ cls := "WeighedGateModel", name := "sell", desc := "()I" } : Jvm.MethodName) prog_13_method_12_code (1 : Nat) (Option.some Jvm.ClassFile.FieldType.int)) ∈ xT0 := xTc6 22 rfl rfl
theorem q1223 : (Jvm.Cond.methodLink "WeighedGateLaw" (31 : Nat) ({ cls := "WeighedGateModel", name := "stoneTold", desc := "(I)I" } : Jvm.MethodName)) ∈ xT0 := xTc6 23 rfl rfl
theorem q1224 : (Jvm.Cond.instanceMethod ({ cls := "WeighedGateModel", name := "stoneTold", desc := "(I)I" } : Jvm.MethodName)) ∈ xT0 := xTc6 24 rfl rfl
theorem q1225 : (Jvm.Cond.selects "WeighedGateModel" ({ cls := "WeighedGateModel", name := "stoneTold", desc := "(I)I" } : Jvm.MethodName) ({ cls := "WeighedGateModel", name := "stoneTold", desc := "(I)I" } : Jvm.MethodName)) ∈ xT0 := xTc6 25 rfl rfl
theorem q1226 : (Jvm.Cond.code ({ cls := "WeighedGateModel", name := "stoneTold", desc := "(I)I" } : Jvm.MethodName) prog_13_method_13_code (2 : Nat) (Option.some Jvm.ClassFile.FieldType.int)) ∈ xT0 := xTc6 26 rfl rfl
theorem q1227 : (Jvm.Cond.methodLink "WeighedGateLaw" (35 : Nat) ({ cls := "WeighedGateModel", name := "count", desc := "(I)I" } : Jvm.MethodName)) ∈ xT0 := xTc6 27 rfl rfl
theorem q1228 : (Jvm.Cond.instanceMethod ({ cls := "WeighedGateModel", name := "count", desc := "(I)I" } : Jvm.MethodName)) ∈ xT0 := xTc6 28 rfl rfl
theorem q1229 : (Jvm.Cond.selects "WeighedGateModel" ({ cls := "WeighedGateModel", name := "count", desc := "(I)I" } : Jvm.MethodName) ({ cls := "WeighedGateModel", name := "count", desc := "(I)I" } : Jvm.MethodName)) ∈ xT0 := xTc6 29 rfl rfl
theorem q1230 : (Jvm.Cond.code ({ cls := "WeighedGateModel", name := "count", desc := "(I)I" } : Jvm.MethodName) prog_13_method_14_code (2 : Nat) (Option.some Jvm.ClassFile.FieldType.int)) ∈ xT0 := xTc6 30 rfl rfl
theorem q1231 : (Jvm.Cond.methodLink "WeighedGateLaw" (40 : Nat) ({ cls := "WeighedGateModel", name := "feed", desc := "(IIIIII)I" } : Jvm.MethodName)) ∈ xT0 := xTc6 31 rfl rfl
theorem q1232 : (Jvm.Cond.instanceMethod ({ cls := "WeighedGateModel", name := "feed", desc := "(IIIIII)I" } : Jvm.MethodName)) ∈ xT0 := xTc6 32 rfl rfl
theorem q1233 : (Jvm.Cond.selects "WeighedGateModel" ({ cls := "WeighedGateModel", name := "feed", desc := "(IIIIII)I" } : Jvm.MethodName) ({ cls := "WeighedGateModel", name := "feed", desc := "(IIIIII)I" } : Jvm.MethodName)) ∈ xT0 := xTc6 33 rfl rfl
theorem q1234 : (Jvm.Cond.code ({ cls := "WeighedGateModel", name := "feed", desc := "(IIIIII)I" } : Jvm.MethodName) prog_13_method_16_code (8 : Nat) (Option.some Jvm.ClassFile.FieldType.int)) ∈ xT0 := xTc6 34 rfl rfl
theorem q1235 : (Jvm.Cond.methodLink "WeighedGateModel" (127 : Nat) ({ cls := "WeighedGateModel", name := "isByte", desc := "(I)Z" } : Jvm.MethodName)) ∈ xT0 := xTc6 35 rfl rfl
theorem q1236 : (Jvm.Cond.static ({ cls := "WeighedGateModel", name := "isByte", desc := "(I)Z" } : Jvm.MethodName)) ∈ xT0 := xTc6 36 rfl rfl
theorem q1237 : (Jvm.Cond.code ({ cls := "WeighedGateModel", name := "isByte", desc := "(I)Z" } : Jvm.MethodName) prog_13_method_15_code (1 : Nat) (Option.some Jvm.ClassFile.FieldType.boolean)) ∈ xT0 := xTc6 37 rfl rfl
theorem q1238 : (Jvm.Cond.methodLink "WeighedGateLaw" (44 : Nat) ({ cls := "WeighedGateModel", name := "text", desc := "()I" } : Jvm.MethodName)) ∈ xT0 := xTc6 38 rfl rfl
theorem q1239 : (Jvm.Cond.methodLink "WeighedGateLaw" (48 : Nat) ({ cls := "WeighedGateModel", name := "force", desc := "(I)I" } : Jvm.MethodName)) ∈ xT0 := xTc6 39 rfl rfl
theorem q1240 : (Jvm.Cond.instanceMethod ({ cls := "WeighedGateModel", name := "force", desc := "(I)I" } : Jvm.MethodName)) ∈ xT0 := xTc6 40 rfl rfl
theorem q1241 : (Jvm.Cond.selects "WeighedGateModel" ({ cls := "WeighedGateModel", name := "force", desc := "(I)I" } : Jvm.MethodName) ({ cls := "WeighedGateModel", name := "force", desc := "(I)I" } : Jvm.MethodName)) ∈ xT0 := xTc6 41 rfl rfl
theorem q1242 : (Jvm.Cond.code ({ cls := "WeighedGateModel", name := "force", desc := "(I)I" } : Jvm.MethodName) prog_13_method_30_code (3 : Nat) (Option.some Jvm.ClassFile.FieldType.int)) ∈ xT0 := xTc6 42 rfl rfl
theorem q1243 : (Jvm.Cond.methodLink "WeighedGateLaw" (53 : Nat) ({ cls := "WeighedGateModel", name := "asks", desc := "(IIII)I" } : Jvm.MethodName)) ∈ xT0 := xTc6 43 rfl rfl
theorem q1244 : (Jvm.Cond.instanceMethod ({ cls := "WeighedGateModel", name := "asks", desc := "(IIII)I" } : Jvm.MethodName)) ∈ xT0 := xTc6 44 rfl rfl
theorem q1245 : (Jvm.Cond.selects "WeighedGateModel" ({ cls := "WeighedGateModel", name := "asks", desc := "(IIII)I" } : Jvm.MethodName) ({ cls := "WeighedGateModel", name := "asks", desc := "(IIII)I" } : Jvm.MethodName)) ∈ xT0 := xTc6 45 rfl rfl
theorem q1246 : (Jvm.Cond.code ({ cls := "WeighedGateModel", name := "asks", desc := "(IIII)I" } : Jvm.MethodName) prog_13_method_32_code (5 : Nat) (Option.some Jvm.ClassFile.FieldType.int)) ∈ xT0 := xTc6 46 rfl rfl
theorem q1247 : (Jvm.Cond.constant "WeighedGateModel" (197 : Nat) (999999 : Int32)) ∈ xT0 := xTc6 47 rfl rfl
theorem q1248 : (Jvm.Cond.methodLink "WeighedGateModel" (198 : Nat) ({ cls := "WeighedGateModel", name := "asksOf", desc := "(IIIIIII)I" } : Jvm.MethodName)) ∈ xT0 := xTc6 48 rfl rfl
theorem q1250 : (Jvm.Cond.instanceMethod ({ cls := "WeighedGateModel", name := "asksOf", desc := "(IIIIIII)I" } : Jvm.MethodName)) ∈ xT0 := xTc6 50 rfl rfl
theorem q1251 : (Jvm.Cond.code ({ cls := "WeighedGateModel", name := "asksOf", desc := "(IIIIIII)I" } : Jvm.MethodName) prog_13_method_31_code (9 : Nat) (Option.some Jvm.ClassFile.FieldType.int)) ∈ xT0 := xTc6 51 rfl rfl
theorem q1252 : (Jvm.Cond.methodLink "WeighedGateModel" (191 : Nat) ({ cls := "WeighedGateModel", name := "worth", desc := "(I)I" } : Jvm.MethodName)) ∈ xT0 := xTc6 52 rfl rfl
theorem q1254 : (Jvm.Cond.instanceMethod ({ cls := "WeighedGateModel", name := "worth", desc := "(I)I" } : Jvm.MethodName)) ∈ xT0 := xTc6 54 rfl rfl
theorem q1255 : (Jvm.Cond.code ({ cls := "WeighedGateModel", name := "worth", desc := "(I)I" } : Jvm.MethodName) prog_13_method_29_code (5 : Nat) (Option.some Jvm.ClassFile.FieldType.int)) ∈ xT0 := xTc6 55 rfl rfl
theorem q1256 : (Jvm.Cond.methodLink "WeighedGateModel" (187 : Nat) ({ cls := "WeighedGateModel", name := "two", desc := "(III)I" } : Jvm.MethodName)) ∈ xT0 := xTc6 56 rfl rfl
theorem q1257 : (Jvm.Cond.static ({ cls := "WeighedGateModel", name := "two", desc := "(III)I" } : Jvm.MethodName)) ∈ xT0 := xTc6 57 rfl rfl
theorem q1258 : (Jvm.Cond.code ({ cls := "WeighedGateModel", name := "two", desc := "(III)I" } : Jvm.MethodName) prog_13_method_28_code (3 : Nat) (Option.some Jvm.ClassFile.FieldType.int)) ∈ xT0 := xTc6 58 rfl rfl
theorem q1259 : (Jvm.Cond.methodLink "WeighedGateModel" (194 : Nat) ({ cls := "WeighedGateModel", name := "within", desc := "(III)I" } : Jvm.MethodName)) ∈ xT0 := xTc6 59 rfl rfl
theorem q1260 : (Jvm.Cond.static ({ cls := "WeighedGateModel", name := "within", desc := "(III)I" } : Jvm.MethodName)) ∈ xT0 := xTc6 60 rfl rfl
theorem q1261 : (Jvm.Cond.code ({ cls := "WeighedGateModel", name := "within", desc := "(III)I" } : Jvm.MethodName) prog_13_method_4_code (3 : Nat) (Option.some Jvm.ClassFile.FieldType.int)) ∈ xT0 := xTc6 61 rfl rfl
theorem q1262 : (Jvm.Cond.methodLink "WeighedGateLaw" (58 : Nat) ({ cls := "WeighedGateModel", name := "cart", desc := "(IIIII)I" } : Jvm.MethodName)) ∈ xT0 := xTc6 62 rfl rfl
theorem q1263 : (Jvm.Cond.instanceMethod ({ cls := "WeighedGateModel", name := "cart", desc := "(IIIII)I" } : Jvm.MethodName)) ∈ xT0 := xTc6 63 rfl rfl
theorem q1264 : (Jvm.Cond.selects "WeighedGateModel" ({ cls := "WeighedGateModel", name := "cart", desc := "(IIIII)I" } : Jvm.MethodName) ({ cls := "WeighedGateModel", name := "cart", desc := "(IIIII)I" } : Jvm.MethodName)) ∈ xT0 := xTc6 64 rfl rfl
theorem q1265 : (Jvm.Cond.code ({ cls := "WeighedGateModel", name := "cart", desc := "(IIIII)I" } : Jvm.MethodName) prog_13_method_33_code (7 : Nat) (Option.some Jvm.ClassFile.FieldType.int)) ∈ xT0 := xTc6 65 rfl rfl
theorem q1266 : (Jvm.Cond.methodLink "WeighedGateLaw" (63 : Nat) ({ cls := "WeighedGateModel", name := "set", desc := "(III)I" } : Jvm.MethodName)) ∈ xT0 := xTc6 66 rfl rfl
theorem q1267 : (Jvm.Cond.instanceMethod ({ cls := "WeighedGateModel", name := "set", desc := "(III)I" } : Jvm.MethodName)) ∈ xT0 := xTc6 67 rfl rfl
theorem q1268 : (Jvm.Cond.selects "WeighedGateModel" ({ cls := "WeighedGateModel", name := "set", desc := "(III)I" } : Jvm.MethodName) ({ cls := "WeighedGateModel", name := "set", desc := "(III)I" } : Jvm.MethodName)) ∈ xT0 := xTc6 68 rfl rfl
theorem q1269 : (Jvm.Cond.code ({ cls := "WeighedGateModel", name := "set", desc := "(III)I" } : Jvm.MethodName) prog_13_method_34_code (5 : Nat) (Option.some Jvm.ClassFile.FieldType.int)) ∈ xT0 := xTc6 69 rfl rfl
theorem q1270 : (Jvm.Cond.methodLink "WeighedGateModel" (202 : Nat) ({ cls := "WeighedGateModel", name := "isCart", desc := "(I)Z" } : Jvm.MethodName)) ∈ xT0 := xTc6 70 rfl rfl
theorem q1272 : (Jvm.Cond.instanceMethod ({ cls := "WeighedGateModel", name := "isCart", desc := "(I)Z" } : Jvm.MethodName)) ∈ xT0 := xTc6 72 rfl rfl
theorem q1273 : (Jvm.Cond.code ({ cls := "WeighedGateModel", name := "isCart", desc := "(I)Z" } : Jvm.MethodName) prog_13_method_7_code (2 : Nat) (Option.some Jvm.ClassFile.FieldType.boolean)) ∈ xT0 := xTc6 73 rfl rfl
theorem q1274 : (Jvm.Cond.methodLink "WeighedGateLaw" (67 : Nat) ({ cls := "WeighedGateModel", name := "cartTold", desc := "(II)I" } : Jvm.MethodName)) ∈ xT0 := xTc6 74 rfl rfl
theorem q1275 : (Jvm.Cond.instanceMethod ({ cls := "WeighedGateModel", name := "cartTold", desc := "(II)I" } : Jvm.MethodName)) ∈ xT0 := xTc6 75 rfl rfl
theorem q1276 : (Jvm.Cond.selects "WeighedGateModel" ({ cls := "WeighedGateModel", name := "cartTold", desc := "(II)I" } : Jvm.MethodName) ({ cls := "WeighedGateModel", name := "cartTold", desc := "(II)I" } : Jvm.MethodName)) ∈ xT0 := xTc6 76 rfl rfl
theorem q1277 : (Jvm.Cond.code ({ cls := "WeighedGateModel", name := "cartTold", desc := "(II)I" } : Jvm.MethodName) prog_13_method_35_code (3 : Nat) (Option.some Jvm.ClassFile.FieldType.int)) ∈ xT0 := xTc6 77 rfl rfl
theorem q1278 : (Jvm.Cond.methodLink "WeighedGateLaw" (71 : Nat) ({ cls := "WeighedGateModel", name := "at", desc := "(III)I" } : Jvm.MethodName)) ∈ xT0 := xTc6 78 rfl rfl
theorem q1279 : (Jvm.Cond.instanceMethod ({ cls := "WeighedGateModel", name := "at", desc := "(III)I" } : Jvm.MethodName)) ∈ xT0 := xTc6 79 rfl rfl
theorem q1280 : (Jvm.Cond.selects "WeighedGateModel" ({ cls := "WeighedGateModel", name := "at", desc := "(III)I" } : Jvm.MethodName) ({ cls := "WeighedGateModel", name := "at", desc := "(III)I" } : Jvm.MethodName)) ∈ xT0 := xTc6 80 rfl rfl
theorem q1281 : (Jvm.Cond.code ({ cls := "WeighedGateModel", name := "at", desc := "(III)I" } : Jvm.MethodName) prog_13_method_39_code (4 : Nat) (Option.some Jvm.ClassFile.FieldType.int)) ∈ xT0 := xTc6 81 rfl rfl
theorem q1282 : (Jvm.Cond.methodLink "WeighedGateModel" (208 : Nat) ({ cls := "WeighedGateModel", name := "isHour", desc := "(I)Z" } : Jvm.MethodName)) ∈ xT0 := xTc6 82 rfl rfl
theorem q1283 : (Jvm.Cond.static ({ cls := "WeighedGateModel", name := "isHour", desc := "(I)Z" } : Jvm.MethodName)) ∈ xT0 := xTc6 83 rfl rfl
theorem q1284 : (Jvm.Cond.code ({ cls := "WeighedGateModel", name := "isHour", desc := "(I)Z" } : Jvm.MethodName) prog_13_method_8_code (1 : Nat) (Option.some Jvm.ClassFile.FieldType.boolean)) ∈ xT0 := xTc6 84 rfl rfl
theorem q1285 : (Jvm.Cond.methodLink "WeighedGateModel" (211 : Nat) ({ cls := "WeighedGateModel", name := "weighs", desc := "(II)I" } : Jvm.MethodName)) ∈ xT0 := xTc6 85 rfl rfl
theorem q1287 : (Jvm.Cond.instanceMethod ({ cls := "WeighedGateModel", name := "weighs", desc := "(II)I" } : Jvm.MethodName)) ∈ xT0 := xTc6 87 rfl rfl
theorem q1288 : (Jvm.Cond.code ({ cls := "WeighedGateModel", name := "weighs", desc := "(II)I" } : Jvm.MethodName) prog_13_method_37_code (5 : Nat) (Option.some Jvm.ClassFile.FieldType.int)) ∈ xT0 := xTc6 88 rfl rfl
theorem q1289 : (Jvm.Cond.methodLink "WeighedGateModel" (205 : Nat) ({ cls := "WeighedGateModel", name := "waited", desc := "(II)I" } : Jvm.MethodName)) ∈ xT0 := xTc6 89 rfl rfl
theorem q1291 : (Jvm.Cond.instanceMethod ({ cls := "WeighedGateModel", name := "waited", desc := "(II)I" } : Jvm.MethodName)) ∈ xT0 := xTc6 91 rfl rfl
theorem q1292 : (Jvm.Cond.code ({ cls := "WeighedGateModel", name := "waited", desc := "(II)I" } : Jvm.MethodName) prog_13_method_36_code (3 : Nat) (Option.some Jvm.ClassFile.FieldType.int)) ∈ xT0 := xTc6 92 rfl rfl
theorem q1293 : (Jvm.Cond.methodLink "WeighedGateModel" (214 : Nat) ({ cls := "WeighedGateModel", name := "worthAt", desc := "(II)I" } : Jvm.MethodName)) ∈ xT0 := xTc6 93 rfl rfl
theorem q1295 : (Jvm.Cond.instanceMethod ({ cls := "WeighedGateModel", name := "worthAt", desc := "(II)I" } : Jvm.MethodName)) ∈ xT0 := xTc6 95 rfl rfl
theorem q1296 : (Jvm.Cond.code ({ cls := "WeighedGateModel", name := "worthAt", desc := "(II)I" } : Jvm.MethodName) prog_13_method_38_code (6 : Nat) (Option.some Jvm.ClassFile.FieldType.int)) ∈ xT0 := xTc6 96 rfl rfl
theorem q1297 : (Jvm.Cond.methodLink "WeighedGateLaw" (75 : Nat) ({ cls := "WeighedGateModel", name := "make", desc := "(I)I" } : Jvm.MethodName)) ∈ xT0 := xTc6 97 rfl rfl
theorem q1298 : (Jvm.Cond.instanceMethod ({ cls := "WeighedGateModel", name := "make", desc := "(I)I" } : Jvm.MethodName)) ∈ xT0 := xTc6 98 rfl rfl
theorem q1299 : (Jvm.Cond.selects "WeighedGateModel" ({ cls := "WeighedGateModel", name := "make", desc := "(I)I" } : Jvm.MethodName) ({ cls := "WeighedGateModel", name := "make", desc := "(I)I" } : Jvm.MethodName)) ∈ xT0 := xTc6 99 rfl rfl
theorem q1300 : (Jvm.Cond.code ({ cls := "WeighedGateModel", name := "make", desc := "(I)I" } : Jvm.MethodName) prog_13_method_43_code (2 : Nat) (Option.some Jvm.ClassFile.FieldType.int)) ∈ xT0 := xTc6 100 rfl rfl
theorem q1301 : (Jvm.Cond.methodLink "WeighedGateModel" (224 : Nat) ({ cls := "WeighedGateModel", name := "findsMade", desc := "()V" } : Jvm.MethodName)) ∈ xT0 := xTc6 101 rfl rfl
theorem q1303 : (Jvm.Cond.instanceMethod ({ cls := "WeighedGateModel", name := "findsMade", desc := "()V" } : Jvm.MethodName)) ∈ xT0 := xTc6 103 rfl rfl
theorem q1304 : (Jvm.Cond.code ({ cls := "WeighedGateModel", name := "findsMade", desc := "()V" } : Jvm.MethodName) prog_13_method_41_code (2 : Nat) (Option.none : Option Jvm.ClassFile.FieldType)) ∈ xT0 := xTc6 104 rfl rfl
theorem q1305 : (Jvm.Cond.methodLink "WeighedGateModel" (220 : Nat) ({ cls := "WeighedGateModel", name := "makes", desc := "(III)V" } : Jvm.MethodName)) ∈ xT0 := xTc6 105 rfl rfl
theorem q1307 : (Jvm.Cond.instanceMethod ({ cls := "WeighedGateModel", name := "makes", desc := "(III)V" } : Jvm.MethodName)) ∈ xT0 := xTc6 107 rfl rfl
theorem q1308 : (Jvm.Cond.code ({ cls := "WeighedGateModel", name := "makes", desc := "(III)V" } : Jvm.MethodName) prog_13_method_40_code (5 : Nat) (Option.none : Option Jvm.ClassFile.FieldType)) ∈ xT0 := xTc6 108 rfl rfl
theorem q1309 : (Jvm.Cond.methodLink "WeighedGateModel" (217 : Nat) ({ cls := "WeighedGateModel", name := "apart", desc := "(II)I" } : Jvm.MethodName)) ∈ xT0 := xTc6 109 rfl rfl
theorem q1310 : (Jvm.Cond.static ({ cls := "WeighedGateModel", name := "apart", desc := "(II)I" } : Jvm.MethodName)) ∈ xT0 := xTc6 110 rfl rfl
theorem q1311 : (Jvm.Cond.code ({ cls := "WeighedGateModel", name := "apart", desc := "(II)I" } : Jvm.MethodName) prog_13_method_5_code (2 : Nat) (Option.some Jvm.ClassFile.FieldType.int)) ∈ xT0 := xTc6 111 rfl rfl
theorem q1312 : (Jvm.Cond.methodLink "WeighedGateLaw" (79 : Nat) ({ cls := "WeighedGateModel", name := "makings", desc := "(II)I" } : Jvm.MethodName)) ∈ xT0 := xTc6 112 rfl rfl
theorem q1313 : (Jvm.Cond.instanceMethod ({ cls := "WeighedGateModel", name := "makings", desc := "(II)I" } : Jvm.MethodName)) ∈ xT0 := xTc6 113 rfl rfl
theorem q1314 : (Jvm.Cond.selects "WeighedGateModel" ({ cls := "WeighedGateModel", name := "makings", desc := "(II)I" } : Jvm.MethodName) ({ cls := "WeighedGateModel", name := "makings", desc := "(II)I" } : Jvm.MethodName)) ∈ xT0 := xTc6 114 rfl rfl
theorem q1315 : (Jvm.Cond.code ({ cls := "WeighedGateModel", name := "makings", desc := "(II)I" } : Jvm.MethodName) prog_13_method_44_code (6 : Nat) (Option.some Jvm.ClassFile.FieldType.int)) ∈ xT0 := xTc6 115 rfl rfl
theorem q1316 : (Jvm.Cond.methodLink "WeighedGateLaw" (83 : Nat) ({ cls := "WeighedGateModel", name := "own", desc := "(II)I" } : Jvm.MethodName)) ∈ xT0 := xTc6 116 rfl rfl
theorem q1317 : (Jvm.Cond.instanceMethod ({ cls := "WeighedGateModel", name := "own", desc := "(II)I" } : Jvm.MethodName)) ∈ xT0 := xTc6 117 rfl rfl
theorem q1318 : (Jvm.Cond.selects "WeighedGateModel" ({ cls := "WeighedGateModel", name := "own", desc := "(II)I" } : Jvm.MethodName) ({ cls := "WeighedGateModel", name := "own", desc := "(II)I" } : Jvm.MethodName)) ∈ xT0 := xTc6 118 rfl rfl
theorem q1319 : (Jvm.Cond.code ({ cls := "WeighedGateModel", name := "own", desc := "(II)I" } : Jvm.MethodName) prog_13_method_45_code (9 : Nat) (Option.some Jvm.ClassFile.FieldType.int)) ∈ xT0 := xTc6 119 rfl rfl
theorem q1320 : (Jvm.Cond.methodLink "WeighedGateLaw" (87 : Nat) ({ cls := "WeighedGateModel", name := "falsely", desc := "(I)I" } : Jvm.MethodName)) ∈ xT0 := xTc6 120 rfl rfl
theorem q1321 : (Jvm.Cond.instanceMethod ({ cls := "WeighedGateModel", name := "falsely", desc := "(I)I" } : Jvm.MethodName)) ∈ xT0 := xTc6 121 rfl rfl
theorem q1322 : (Jvm.Cond.selects "WeighedGateModel" ({ cls := "WeighedGateModel", name := "falsely", desc := "(I)I" } : Jvm.MethodName) ({ cls := "WeighedGateModel", name := "falsely", desc := "(I)I" } : Jvm.MethodName)) ∈ xT0 := xTc6 122 rfl rfl
theorem q1323 : (Jvm.Cond.code ({ cls := "WeighedGateModel", name := "falsely", desc := "(I)I" } : Jvm.MethodName) prog_13_method_46_code (4 : Nat) (Option.some Jvm.ClassFile.FieldType.int)) ∈ xT0 := xTc6 123 rfl rfl
theorem q1324 : (Jvm.Cond.methodLink "WeighedGateLaw" (91 : Nat) ({ cls := "WeighedGateModel", name := "scales", desc := "(III)I" } : Jvm.MethodName)) ∈ xT0 := xTc6 124 rfl rfl
theorem q1325 : (Jvm.Cond.instanceMethod ({ cls := "WeighedGateModel", name := "scales", desc := "(III)I" } : Jvm.MethodName)) ∈ xT0 := xTc6 125 rfl rfl
theorem q1326 : (Jvm.Cond.selects "WeighedGateModel" ({ cls := "WeighedGateModel", name := "scales", desc := "(III)I" } : Jvm.MethodName) ({ cls := "WeighedGateModel", name := "scales", desc := "(III)I" } : Jvm.MethodName)) ∈ xT0 := xTc6 126 rfl rfl
theorem q1327 : (Jvm.Cond.code ({ cls := "WeighedGateModel", name := "scales", desc := "(III)I" } : Jvm.MethodName) prog_13_method_49_code (4 : Nat) (Option.some Jvm.ClassFile.FieldType.int)) ∈ xT0 := xTc6 127 rfl rfl
theorem q1328 : (Jvm.Cond.methodLink "WeighedGateModel" (252 : Nat) ({ cls := "WeighedGateModel", name := "allCarts", desc := "()I" } : Jvm.MethodName)) ∈ xT0 := xTc6 128 rfl rfl
theorem q1330 : (Jvm.Cond.instanceMethod ({ cls := "WeighedGateModel", name := "allCarts", desc := "()I" } : Jvm.MethodName)) ∈ xT0 := xTc6 130 rfl rfl
theorem q1331 : (Jvm.Cond.code ({ cls := "WeighedGateModel", name := "allCarts", desc := "()I" } : Jvm.MethodName) prog_13_method_9_code (1 : Nat) (Option.some Jvm.ClassFile.FieldType.int)) ∈ xT0 := xTc6 131 rfl rfl
theorem q1332 : (Jvm.Cond.methodLink "WeighedGateModel" (255 : Nat) ({ cls := "WeighedGateModel", name := "weighing", desc := "(II)V" } : Jvm.MethodName)) ∈ xT0 := xTc6 132 rfl rfl
theorem q1334 : (Jvm.Cond.instanceMethod ({ cls := "WeighedGateModel", name := "weighing", desc := "(II)V" } : Jvm.MethodName)) ∈ xT0 := xTc6 134 rfl rfl
theorem q1335 : (Jvm.Cond.code ({ cls := "WeighedGateModel", name := "weighing", desc := "(II)V" } : Jvm.MethodName) prog_13_method_48_code (9 : Nat) (Option.none : Option Jvm.ClassFile.FieldType)) ∈ xT0 := xTc6 135 rfl rfl
theorem q1336 : (Jvm.Cond.methodLink "WeighedGateModel" (239 : Nat) ({ cls := "WeighedGateModel", name := "madeBy", desc := "(I)I" } : Jvm.MethodName)) ∈ xT0 := xTc6 136 rfl rfl
theorem q1338 : (Jvm.Cond.instanceMethod ({ cls := "WeighedGateModel", name := "madeBy", desc := "(I)I" } : Jvm.MethodName)) ∈ xT0 := xTc6 138 rfl rfl
theorem q1339 : (Jvm.Cond.code ({ cls := "WeighedGateModel", name := "madeBy", desc := "(I)I" } : Jvm.MethodName) prog_13_method_42_code (2 : Nat) (Option.some Jvm.ClassFile.FieldType.int)) ∈ xT0 := xTc6 139 rfl rfl
theorem q1340 : (Jvm.Cond.methodLink "WeighedGateModel" (242 : Nat) ({ cls := "WeighedGateModel", name := "fewer", desc := "(II)I" } : Jvm.MethodName)) ∈ xT0 := xTc6 140 rfl rfl
theorem q1341 : (Jvm.Cond.static ({ cls := "WeighedGateModel", name := "fewer", desc := "(II)I" } : Jvm.MethodName)) ∈ xT0 := xTc6 141 rfl rfl
theorem q1342 : (Jvm.Cond.code ({ cls := "WeighedGateModel", name := "fewer", desc := "(II)I" } : Jvm.MethodName) prog_13_method_47_code (2 : Nat) (Option.some Jvm.ClassFile.FieldType.int)) ∈ xT0 := xTc6 142 rfl rfl
theorem q1343 : (Jvm.Cond.methodLink "WeighedGateLaw" (95 : Nat) ({ cls := "WeighedGateModel", name := "pairs", desc := "(II)I" } : Jvm.MethodName)) ∈ xT0 := xTc6 143 rfl rfl
theorem q1344 : (Jvm.Cond.instanceMethod ({ cls := "WeighedGateModel", name := "pairs", desc := "(II)I" } : Jvm.MethodName)) ∈ xT0 := xTc6 144 rfl rfl
theorem q1345 : (Jvm.Cond.selects "WeighedGateModel" ({ cls := "WeighedGateModel", name := "pairs", desc := "(II)I" } : Jvm.MethodName) ({ cls := "WeighedGateModel", name := "pairs", desc := "(II)I" } : Jvm.MethodName)) ∈ xT0 := xTc6 145 rfl rfl
theorem q1346 : (Jvm.Cond.code ({ cls := "WeighedGateModel", name := "pairs", desc := "(II)I" } : Jvm.MethodName) prog_13_method_53_code (3 : Nat) (Option.some Jvm.ClassFile.FieldType.int)) ∈ xT0 := xTc6 146 rfl rfl
theorem q1347 : (Jvm.Cond.methodLink "WeighedGateModel" (273 : Nat) ({ cls := "WeighedGateModel", name := "findsPairs", desc := "(I)V" } : Jvm.MethodName)) ∈ xT0 := xTc6 147 rfl rfl
theorem q1349 : (Jvm.Cond.instanceMethod ({ cls := "WeighedGateModel", name := "findsPairs", desc := "(I)V" } : Jvm.MethodName)) ∈ xT0 := xTc6 149 rfl rfl
theorem q1350 : (Jvm.Cond.code ({ cls := "WeighedGateModel", name := "findsPairs", desc := "(I)V" } : Jvm.MethodName) prog_13_method_52_code (2 : Nat) (Option.none : Option Jvm.ClassFile.FieldType)) ∈ xT0 := xTc6 150 rfl rfl
theorem q1351 : (Jvm.Cond.methodLink "WeighedGateModel" (270 : Nat) ({ cls := "WeighedGateModel", name := "findsTwos", desc := "(I)V" } : Jvm.MethodName)) ∈ xT0 := xTc6 151 rfl rfl
theorem q1353 : (Jvm.Cond.instanceMethod ({ cls := "WeighedGateModel", name := "findsTwos", desc := "(I)V" } : Jvm.MethodName)) ∈ xT0 := xTc6 153 rfl rfl
theorem q1354 : (Jvm.Cond.code ({ cls := "WeighedGateModel", name := "findsTwos", desc := "(I)V" } : Jvm.MethodName) prog_13_method_50_code (6 : Nat) (Option.none : Option Jvm.ClassFile.FieldType)) ∈ xT0 := xTc6 154 rfl rfl
theorem q1355 : (Jvm.Cond.constant "WeighedGateModel" (259 : Nat) (-100000 : Int32)) ∈ xT0 := xTc6 155 rfl rfl
theorem q1356 : (Jvm.Cond.methodLink "WeighedGateModel" (266 : Nat) ({ cls := "WeighedGateModel", name := "pairsFrom", desc := "(IIII)V" } : Jvm.MethodName)) ∈ xT0 := xTc6 156 rfl rfl
theorem q1358 : (Jvm.Cond.instanceMethod ({ cls := "WeighedGateModel", name := "pairsFrom", desc := "(IIII)V" } : Jvm.MethodName)) ∈ xT0 := xTc6 158 rfl rfl
theorem q1359 : (Jvm.Cond.code ({ cls := "WeighedGateModel", name := "pairsFrom", desc := "(IIII)V" } : Jvm.MethodName) prog_13_method_51_code (6 : Nat) (Option.none : Option Jvm.ClassFile.FieldType)) ∈ xT0 := xTc6 159 rfl rfl
theorem q1360 : (Jvm.Cond.methodLink "WeighedGateLaw" (99 : Nat) ({ cls := "WeighedGateModel", name := "against", desc := "(II)I" } : Jvm.MethodName)) ∈ xT0 := xTc6 160 rfl rfl
theorem q1361 : (Jvm.Cond.instanceMethod ({ cls := "WeighedGateModel", name := "against", desc := "(II)I" } : Jvm.MethodName)) ∈ xT0 := xTc6 161 rfl rfl
theorem q1362 : (Jvm.Cond.selects "WeighedGateModel" ({ cls := "WeighedGateModel", name := "against", desc := "(II)I" } : Jvm.MethodName) ({ cls := "WeighedGateModel", name := "against", desc := "(II)I" } : Jvm.MethodName)) ∈ xT0 := xTc6 162 rfl rfl
theorem q1363 : (Jvm.Cond.code ({ cls := "WeighedGateModel", name := "against", desc := "(II)I" } : Jvm.MethodName) prog_13_method_54_code (4 : Nat) (Option.some Jvm.ClassFile.FieldType.int)) ∈ xT0 := xTc6 163 rfl rfl
theorem q1364 : (Jvm.Cond.methodLink "WeighedGateLaw" (103 : Nat) ({ cls := "WeighedGateModel", name := "best", desc := "(II)I" } : Jvm.MethodName)) ∈ xT0 := xTc6 164 rfl rfl
theorem q1365 : (Jvm.Cond.instanceMethod ({ cls := "WeighedGateModel", name := "best", desc := "(II)I" } : Jvm.MethodName)) ∈ xT0 := xTc6 165 rfl rfl
theorem q1366 : (Jvm.Cond.selects "WeighedGateModel" ({ cls := "WeighedGateModel", name := "best", desc := "(II)I" } : Jvm.MethodName) ({ cls := "WeighedGateModel", name := "best", desc := "(II)I" } : Jvm.MethodName)) ∈ xT0 := xTc6 166 rfl rfl
theorem q1367 : (Jvm.Cond.code ({ cls := "WeighedGateModel", name := "best", desc := "(II)I" } : Jvm.MethodName) prog_13_method_56_code (3 : Nat) (Option.some Jvm.ClassFile.FieldType.int)) ∈ xT0 := xTc6 167 rfl rfl
theorem q1368 : (Jvm.Cond.methodLink "WeighedGateModel" (285 : Nat) ({ cls := "WeighedGateModel", name := "findsBest", desc := "(II)V" } : Jvm.MethodName)) ∈ xT0 := xTc6 168 rfl rfl
theorem q1370 : (Jvm.Cond.instanceMethod ({ cls := "WeighedGateModel", name := "findsBest", desc := "(II)V" } : Jvm.MethodName)) ∈ xT0 := xTc6 170 rfl rfl
theorem q1371 : (Jvm.Cond.code ({ cls := "WeighedGateModel", name := "findsBest", desc := "(II)V" } : Jvm.MethodName) prog_13_method_55_code (4 : Nat) (Option.none : Option Jvm.ClassFile.FieldType)) ∈ xT0 := xTc6 171 rfl rfl
theorem q1372 : (Jvm.Cond.methodLink "WeighedGateModel" (282 : Nat) ({ cls := "WeighedGateModel", name := "ones", desc := "(I)I" } : Jvm.MethodName)) ∈ xT0 := xTc6 172 rfl rfl
theorem q1373 : (Jvm.Cond.static ({ cls := "WeighedGateModel", name := "ones", desc := "(I)I" } : Jvm.MethodName)) ∈ xT0 := xTc6 173 rfl rfl
theorem q1374 : (Jvm.Cond.code ({ cls := "WeighedGateModel", name := "ones", desc := "(I)I" } : Jvm.MethodName) prog_13_method_6_code (3 : Nat) (Option.some Jvm.ClassFile.FieldType.int)) ∈ xT0 := xTc6 174 rfl rfl
theorem q1375 : (Jvm.Cond.methodLink "WeighedGateLaw" (107 : Nat) ({ cls := "WeighedGateModel", name := "dusk", desc := "(II)I" } : Jvm.MethodName)) ∈ xT0 := xTc6 175 rfl rfl
theorem q1376 : (Jvm.Cond.instanceMethod ({ cls := "WeighedGateModel", name := "dusk", desc := "(II)I" } : Jvm.MethodName)) ∈ xT0 := xTc6 176 rfl rfl
theorem q1377 : (Jvm.Cond.selects "WeighedGateModel" ({ cls := "WeighedGateModel", name := "dusk", desc := "(II)I" } : Jvm.MethodName) ({ cls := "WeighedGateModel", name := "dusk", desc := "(II)I" } : Jvm.MethodName)) ∈ xT0 := xTc6 177 rfl rfl
theorem q1378 : (Jvm.Cond.code ({ cls := "WeighedGateModel", name := "dusk", desc := "(II)I" } : Jvm.MethodName) prog_13_method_60_code (8 : Nat) (Option.some Jvm.ClassFile.FieldType.int)) ∈ xT0 := xTc6 178 rfl rfl
theorem q1379 : (Jvm.Cond.methodLink "WeighedGateModel" (303 : Nat) ({ cls := "WeighedGateModel", name := "lives", desc := "(I)V" } : Jvm.MethodName)) ∈ xT0 := xTc6 179 rfl rfl
theorem q1381 : (Jvm.Cond.instanceMethod ({ cls := "WeighedGateModel", name := "lives", desc := "(I)V" } : Jvm.MethodName)) ∈ xT0 := xTc6 181 rfl rfl
theorem q1382 : (Jvm.Cond.code ({ cls := "WeighedGateModel", name := "lives", desc := "(I)V" } : Jvm.MethodName) prog_13_method_57_code (3 : Nat) (Option.none : Option Jvm.ClassFile.FieldType)) ∈ xT0 := xTc6 182 rfl rfl
theorem q1383 : (Jvm.Cond.methodLink "WeighedGateModel" (300 : Nat) ({ cls := "WeighedGateModel", name := "goesThrough", desc := "(I)V" } : Jvm.MethodName)) ∈ xT0 := xTc6 183 rfl rfl
theorem q1385 : (Jvm.Cond.instanceMethod ({ cls := "WeighedGateModel", name := "goesThrough", desc := "(I)V" } : Jvm.MethodName)) ∈ xT0 := xTc6 185 rfl rfl
theorem q1386 : (Jvm.Cond.code ({ cls := "WeighedGateModel", name := "goesThrough", desc := "(I)V" } : Jvm.MethodName) prog_13_method_58_code (3 : Nat) (Option.none : Option Jvm.ClassFile.FieldType)) ∈ xT0 := xTc6 186 rfl rfl
theorem q1387 : (Jvm.Cond.methodLink "WeighedGateLaw" (111 : Nat) ({ cls := "WeighedGateModel", name := "goes", desc := "(II)I" } : Jvm.MethodName)) ∈ xT0 := xTc6 187 rfl rfl
theorem q1388 : (Jvm.Cond.instanceMethod ({ cls := "WeighedGateModel", name := "goes", desc := "(II)I" } : Jvm.MethodName)) ∈ xT0 := xTc6 188 rfl rfl
theorem q1389 : (Jvm.Cond.selects "WeighedGateModel" ({ cls := "WeighedGateModel", name := "goes", desc := "(II)I" } : Jvm.MethodName) ({ cls := "WeighedGateModel", name := "goes", desc := "(II)I" } : Jvm.MethodName)) ∈ xT0 := xTc6 189 rfl rfl
theorem q1390 : (Jvm.Cond.code ({ cls := "WeighedGateModel", name := "goes", desc := "(II)I" } : Jvm.MethodName) prog_13_method_61_code (3 : Nat) (Option.some Jvm.ClassFile.FieldType.int)) ∈ xT0 := xTc6 190 rfl rfl
theorem q1391 : (Jvm.Cond.methodLink "WeighedGateLaw" (115 : Nat) ({ cls := "WeighedGateModel", name := "hold", desc := "(I)I" } : Jvm.MethodName)) ∈ xT0 := xTc6 191 rfl rfl
theorem q1392 : (Jvm.Cond.instanceMethod ({ cls := "WeighedGateModel", name := "hold", desc := "(I)I" } : Jvm.MethodName)) ∈ xT0 := xTc6 192 rfl rfl
theorem q1393 : (Jvm.Cond.selects "WeighedGateModel" ({ cls := "WeighedGateModel", name := "hold", desc := "(I)I" } : Jvm.MethodName) ({ cls := "WeighedGateModel", name := "hold", desc := "(I)I" } : Jvm.MethodName)) ∈ xT0 := xTc6 193 rfl rfl
theorem q1394 : (Jvm.Cond.code ({ cls := "WeighedGateModel", name := "hold", desc := "(I)I" } : Jvm.MethodName) prog_13_method_62_code (6 : Nat) (Option.some Jvm.ClassFile.FieldType.int)) ∈ xT0 := xTc6 194 rfl rfl
theorem q1395 : (Jvm.Cond.methodLink "WeighedGateModel" (306 : Nat) ({ cls := "WeighedGateModel", name := "earnedBy", desc := "()I" } : Jvm.MethodName)) ∈ xT0 := xTc6 195 rfl rfl
theorem q1397 : (Jvm.Cond.instanceMethod ({ cls := "WeighedGateModel", name := "earnedBy", desc := "()I" } : Jvm.MethodName)) ∈ xT0 := xTc6 197 rfl rfl
theorem q1398 : (Jvm.Cond.code ({ cls := "WeighedGateModel", name := "earnedBy", desc := "()I" } : Jvm.MethodName) prog_13_method_59_code (1 : Nat) (Option.some Jvm.ClassFile.FieldType.int)) ∈ xT0 := xTc6 198 rfl rfl
theorem q1399 : (Jvm.Cond.methodLink "WeighedGateLaw" (119 : Nat) ({ cls := "WeighedGateModel", name := "gain", desc := "(I)I" } : Jvm.MethodName)) ∈ xT0 := xTc6 199 rfl rfl
theorem q1400 : (Jvm.Cond.instanceMethod ({ cls := "WeighedGateModel", name := "gain", desc := "(I)I" } : Jvm.MethodName)) ∈ xT0 := xTc6 200 rfl rfl
theorem q1401 : (Jvm.Cond.selects "WeighedGateModel" ({ cls := "WeighedGateModel", name := "gain", desc := "(I)I" } : Jvm.MethodName) ({ cls := "WeighedGateModel", name := "gain", desc := "(I)I" } : Jvm.MethodName)) ∈ xT0 := xTc6 201 rfl rfl
theorem q1402 : (Jvm.Cond.code ({ cls := "WeighedGateModel", name := "gain", desc := "(I)I" } : Jvm.MethodName) prog_13_method_63_code (4 : Nat) (Option.some Jvm.ClassFile.FieldType.int)) ∈ xT0 := xTc6 202 rfl rfl
theorem q1403 : (Jvm.Cond.methodLink "WeighedGateLaw" (123 : Nat) ({ cls := "WeighedGateModel", name := "bring", desc := "(II)I" } : Jvm.MethodName)) ∈ xT0 := xTc6 203 rfl rfl
theorem q1404 : (Jvm.Cond.instanceMethod ({ cls := "WeighedGateModel", name := "bring", desc := "(II)I" } : Jvm.MethodName)) ∈ xT0 := xTc6 204 rfl rfl
theorem q1405 : (Jvm.Cond.selects "WeighedGateModel" ({ cls := "WeighedGateModel", name := "bring", desc := "(II)I" } : Jvm.MethodName) ({ cls := "WeighedGateModel", name := "bring", desc := "(II)I" } : Jvm.MethodName)) ∈ xT0 := xTc6 205 rfl rfl
theorem q1406 : (Jvm.Cond.code ({ cls := "WeighedGateModel", name := "bring", desc := "(II)I" } : Jvm.MethodName) prog_13_method_64_code (8 : Nat) (Option.some Jvm.ClassFile.FieldType.int)) ∈ xT0 := xTc6 206 rfl rfl
theorem q1407 : (Jvm.Cond.methodLink "WeighedGateLaw" (127 : Nat) ({ cls := "WeighedGateModel", name := "judge", desc := "(I)I" } : Jvm.MethodName)) ∈ xT0 := xTc6 207 rfl rfl
theorem q1408 : (Jvm.Cond.instanceMethod ({ cls := "WeighedGateModel", name := "judge", desc := "(I)I" } : Jvm.MethodName)) ∈ xT0 := xTc6 208 rfl rfl
theorem q1409 : (Jvm.Cond.selects "WeighedGateModel" ({ cls := "WeighedGateModel", name := "judge", desc := "(I)I" } : Jvm.MethodName) ({ cls := "WeighedGateModel", name := "judge", desc := "(I)I" } : Jvm.MethodName)) ∈ xT0 := xTc6 209 rfl rfl
theorem q1410 : (Jvm.Cond.code ({ cls := "WeighedGateModel", name := "judge", desc := "(I)I" } : Jvm.MethodName) prog_13_method_67_code (6 : Nat) (Option.some Jvm.ClassFile.FieldType.int)) ∈ xT0 := xTc6 210 rfl rfl
theorem q1411 : (Jvm.Cond.methodLink "WeighedGateModel" (309 : Nat) ({ cls := "WeighedGateModel", name := "sheetWrong", desc := "(I)I" } : Jvm.MethodName)) ∈ xT0 := xTc6 211 rfl rfl
theorem q1413 : (Jvm.Cond.instanceMethod ({ cls := "WeighedGateModel", name := "sheetWrong", desc := "(I)I" } : Jvm.MethodName)) ∈ xT0 := xTc6 213 rfl rfl
theorem q1414 : (Jvm.Cond.code ({ cls := "WeighedGateModel", name := "sheetWrong", desc := "(I)I" } : Jvm.MethodName) prog_13_method_65_code (2 : Nat) (Option.some Jvm.ClassFile.FieldType.int)) ∈ xT0 := xTc6 214 rfl rfl
theorem q1415 : (Jvm.Cond.methodLink "WeighedGateModel" (312 : Nat) ({ cls := "WeighedGateModel", name := "isRow", desc := "(IIII)Z" } : Jvm.MethodName)) ∈ xT0 := xTc6 215 rfl rfl
theorem q1417 : (Jvm.Cond.instanceMethod ({ cls := "WeighedGateModel", name := "isRow", desc := "(IIII)Z" } : Jvm.MethodName)) ∈ xT0 := xTc6 217 rfl rfl
theorem q1418 : (Jvm.Cond.code ({ cls := "WeighedGateModel", name := "isRow", desc := "(IIII)Z" } : Jvm.MethodName) prog_13_method_66_code (7 : Nat) (Option.some Jvm.ClassFile.FieldType.boolean)) ∈ xT0 := xTc6 218 rfl rfl
theorem q1419 : (Jvm.Cond.methodLink "WeighedGateLaw" (131 : Nat) ({ cls := "WeighedGateModel", name := "laws", desc := "(I)I" } : Jvm.MethodName)) ∈ xT0 := xTc6 219 rfl rfl
theorem q1420 : (Jvm.Cond.instanceMethod ({ cls := "WeighedGateModel", name := "laws", desc := "(I)I" } : Jvm.MethodName)) ∈ xT0 := xTc6 220 rfl rfl
theorem q1421 : (Jvm.Cond.selects "WeighedGateModel" ({ cls := "WeighedGateModel", name := "laws", desc := "(I)I" } : Jvm.MethodName) ({ cls := "WeighedGateModel", name := "laws", desc := "(I)I" } : Jvm.MethodName)) ∈ xT0 := xTc6 221 rfl rfl
theorem q1422 : (Jvm.Cond.code ({ cls := "WeighedGateModel", name := "laws", desc := "(I)I" } : Jvm.MethodName) prog_13_method_70_code (6 : Nat) (Option.some Jvm.ClassFile.FieldType.int)) ∈ xT0 := xTc6 222 rfl rfl
theorem q1423 : (Jvm.Cond.methodLink "WeighedGateModel" (316 : Nat) ({ cls := "WeighedGateModel", name := "areRows", desc := "(I)Z" } : Jvm.MethodName)) ∈ xT0 := xTc6 223 rfl rfl
theorem q1425 : (Jvm.Cond.instanceMethod ({ cls := "WeighedGateModel", name := "areRows", desc := "(I)Z" } : Jvm.MethodName)) ∈ xT0 := xTc6 225 rfl rfl
theorem q1426 : (Jvm.Cond.code ({ cls := "WeighedGateModel", name := "areRows", desc := "(I)Z" } : Jvm.MethodName) prog_13_method_69_code (4 : Nat) (Option.some Jvm.ClassFile.FieldType.boolean)) ∈ xT0 := xTc6 226 rfl rfl
theorem q1427 : (Jvm.Cond.methodLink "WeighedGateLaw" (135 : Nat) ({ cls := "WeighedGateModel", name := "film", desc := "(I)I" } : Jvm.MethodName)) ∈ xT0 := xTc6 227 rfl rfl
theorem q1428 : (Jvm.Cond.instanceMethod ({ cls := "WeighedGateModel", name := "film", desc := "(I)I" } : Jvm.MethodName)) ∈ xT0 := xTc6 228 rfl rfl
theorem q1429 : (Jvm.Cond.selects "WeighedGateModel" ({ cls := "WeighedGateModel", name := "film", desc := "(I)I" } : Jvm.MethodName) ({ cls := "WeighedGateModel", name := "film", desc := "(I)I" } : Jvm.MethodName)) ∈ xT0 := xTc6 229 rfl rfl
theorem q1430 : (Jvm.Cond.code ({ cls := "WeighedGateModel", name := "film", desc := "(I)I" } : Jvm.MethodName) prog_13_method_71_code (4 : Nat) (Option.some Jvm.ClassFile.FieldType.int)) ∈ xT0 := xTc6 230 rfl rfl
theorem q1431 : (Jvm.Cond.methodLink "WeighedGateModel" (319 : Nat) ({ cls := "WeighedGateModel", name := "rowsOfDay", desc := "()I" } : Jvm.MethodName)) ∈ xT0 := xTc6 231 rfl rfl
theorem q1433 : (Jvm.Cond.instanceMethod ({ cls := "WeighedGateModel", name := "rowsOfDay", desc := "()I" } : Jvm.MethodName)) ∈ xT0 := xTc6 233 rfl rfl
theorem q1434 : (Jvm.Cond.code ({ cls := "WeighedGateModel", name := "rowsOfDay", desc := "()I" } : Jvm.MethodName) prog_13_method_68_code (3 : Nat) (Option.some Jvm.ClassFile.FieldType.int)) ∈ xT0 := xTc6 234 rfl rfl
theorem q1435 : (Jvm.Cond.methodLink "WeighedGateLaw" (139 : Nat) ({ cls := "WeighedGateModel", name := "lost", desc := "(IIII)I" } : Jvm.MethodName)) ∈ xT0 := xTc6 235 rfl rfl
theorem q1436 : (Jvm.Cond.instanceMethod ({ cls := "WeighedGateModel", name := "lost", desc := "(IIII)I" } : Jvm.MethodName)) ∈ xT0 := xTc6 236 rfl rfl
theorem q1437 : (Jvm.Cond.selects "WeighedGateModel" ({ cls := "WeighedGateModel", name := "lost", desc := "(IIII)I" } : Jvm.MethodName) ({ cls := "WeighedGateModel", name := "lost", desc := "(IIII)I" } : Jvm.MethodName)) ∈ xT0 := xTc6 237 rfl rfl
theorem q1438 : (Jvm.Cond.code ({ cls := "WeighedGateModel", name := "lost", desc := "(IIII)I" } : Jvm.MethodName) prog_13_method_72_code (11 : Nat) (Option.some Jvm.ClassFile.FieldType.int)) ∈ xT0 := xTc6 238 rfl rfl
theorem q1439 : (Jvm.Cond.methodLink "WeighedGateLaw" (143 : Nat) ({ cls := "WeighedGateModel", name := "drawn", desc := "(II)I" } : Jvm.MethodName)) ∈ xT0 := xTc6 239 rfl rfl
theorem q1440 : (Jvm.Cond.instanceMethod ({ cls := "WeighedGateModel", name := "drawn", desc := "(II)I" } : Jvm.MethodName)) ∈ xT0 := xTc7 0 rfl rfl
theorem q1441 : (Jvm.Cond.selects "WeighedGateModel" ({ cls := "WeighedGateModel", name := "drawn", desc := "(II)I" } : Jvm.MethodName) ({ cls := "WeighedGateModel", name := "drawn", desc := "(II)I" } : Jvm.MethodName)) ∈ xT0 := xTc7 1 rfl rfl
theorem q1442 : (Jvm.Cond.code ({ cls := "WeighedGateModel", name := "drawn", desc := "(II)I" } : Jvm.MethodName) prog_13_method_74_code (3 : Nat) (Option.some Jvm.ClassFile.FieldType.int)) ∈ xT0 := xTc7 2 rfl rfl
theorem q1443 : (Jvm.Cond.constant "WeighedGateModel" (328 : Nat) (99999 : Int32)) ∈ xT0 := xTc7 3 rfl rfl
theorem q1444 : (Jvm.Cond.methodLink "WeighedGateModel" (329 : Nat) ({ cls := "WeighedGateModel", name := "draws", desc := "(I)V" } : Jvm.MethodName)) ∈ xT0 := xTc7 4 rfl rfl
theorem q1446 : (Jvm.Cond.instanceMethod ({ cls := "WeighedGateModel", name := "draws", desc := "(I)V" } : Jvm.MethodName)) ∈ xT0 := xTc7 6 rfl rfl
theorem q1447 : (Jvm.Cond.code ({ cls := "WeighedGateModel", name := "draws", desc := "(I)V" } : Jvm.MethodName) prog_13_method_73_code (5 : Nat) (Option.none : Option Jvm.ClassFile.FieldType)) ∈ xT0 := xTc7 7 rfl rfl
theorem q1448 : (Jvm.Cond.constantLong "WeighedGateModel" (322 : Nat) (48271 : Int64)) ∈ xT0 := xTc7 8 rfl rfl
theorem q1449 : (Jvm.Cond.constantLong "WeighedGateModel" (324 : Nat) (2147483647 : Int64)) ∈ xT0 := xTc7 9 rfl rfl
theorem q1450 : (Jvm.Cond.constantLong "WeighedGateModel" (326 : Nat) (10 : Int64)) ∈ xT0 := xTc7 10 rfl rfl
theorem q1451 : (Jvm.Cond.methodLink "WeighedGateLaw" (148 : Nat) ({ cls := "WeighedGateModel", name := "odds", desc := "(IIII)J" } : Jvm.MethodName)) ∈ xT0 := xTc7 11 rfl rfl
theorem q1452 : (Jvm.Cond.instanceMethod ({ cls := "WeighedGateModel", name := "odds", desc := "(IIII)J" } : Jvm.MethodName)) ∈ xT0 := xTc7 12 rfl rfl
theorem q1453 : (Jvm.Cond.selects "WeighedGateModel" ({ cls := "WeighedGateModel", name := "odds", desc := "(IIII)J" } : Jvm.MethodName) ({ cls := "WeighedGateModel", name := "odds", desc := "(IIII)J" } : Jvm.MethodName)) ∈ xT0 := xTc7 13 rfl rfl
theorem q1454 : (Jvm.Cond.code ({ cls := "WeighedGateModel", name := "odds", desc := "(IIII)J" } : Jvm.MethodName) prog_13_method_76_code (8 : Nat) (Option.some Jvm.ClassFile.FieldType.long)) ∈ xT0 := xTc7 14 rfl rfl
theorem q1455 : (Jvm.Cond.constantLong "WeighedGateModel" (332 : Nat) (-4611686018427387904 : Int64)) ∈ xT0 := xTc7 15 rfl rfl
theorem q1456 : (Jvm.Cond.methodLink "WeighedGateModel" (334 : Nat) ({ cls := "WeighedGateModel", name := "lowest", desc := "(JJI)J" } : Jvm.MethodName)) ∈ xT0 := xTc7 16 rfl rfl
theorem q1457 : (Jvm.Cond.static ({ cls := "WeighedGateModel", name := "lowest", desc := "(JJI)J" } : Jvm.MethodName)) ∈ xT0 := xTc7 17 rfl rfl
theorem q1458 : (Jvm.Cond.code ({ cls := "WeighedGateModel", name := "lowest", desc := "(JJI)J" } : Jvm.MethodName) prog_13_method_75_code (11 : Nat) (Option.some Jvm.ClassFile.FieldType.long)) ∈ xT0 := xTc7 18 rfl rfl
theorem q1459 : (Jvm.Cond.methodLink "WeighedGateLaw" (152 : Nat) ({ cls := "WeighedGateModel", name := "image", desc := "()I" } : Jvm.MethodName)) ∈ xT0 := xTc7 19 rfl rfl
theorem q1460 : (Jvm.Cond.instanceMethod ({ cls := "WeighedGateModel", name := "image", desc := "()I" } : Jvm.MethodName)) ∈ xT0 := xTc7 20 rfl rfl
theorem q1461 : (Jvm.Cond.selects "WeighedGateModel" ({ cls := "WeighedGateModel", name := "image", desc := "()I" } : Jvm.MethodName) ({ cls := "WeighedGateModel", name := "image", desc := "()I" } : Jvm.MethodName)) ∈ xT0 := xTc7 21 rfl rfl
theorem q1462 : (Jvm.Cond.code ({ cls := "WeighedGateModel", name := "image", desc := "()I" } : Jvm.MethodName) prog_13_method_77_code (2 : Nat) (Option.some Jvm.ClassFile.FieldType.int)) ∈ xT0 := xTc7 22 rfl rfl
theorem q1463 : (Jvm.Cond.methodLink "WeighedGateLaw" (156 : Nat) ({ cls := "WeighedGateModel", name := "back", desc := "()I" } : Jvm.MethodName)) ∈ xT0 := xTc7 23 rfl rfl
theorem q1464 : (Jvm.Cond.instanceMethod ({ cls := "WeighedGateModel", name := "back", desc := "()I" } : Jvm.MethodName)) ∈ xT0 := xTc7 24 rfl rfl
theorem q1465 : (Jvm.Cond.selects "WeighedGateModel" ({ cls := "WeighedGateModel", name := "back", desc := "()I" } : Jvm.MethodName) ({ cls := "WeighedGateModel", name := "back", desc := "()I" } : Jvm.MethodName)) ∈ xT0 := xTc7 25 rfl rfl
theorem q1466 : (Jvm.Cond.code ({ cls := "WeighedGateModel", name := "back", desc := "()I" } : Jvm.MethodName) prog_13_method_78_code (2 : Nat) (Option.some Jvm.ClassFile.FieldType.int)) ∈ xT0 := xTc7 26 rfl rfl
theorem q1467 : (Jvm.Cond.methodLink "WeighedGateLaw" (160 : Nat) ({ cls := "WeighedGateModel", name := "sheet", desc := "(III)I" } : Jvm.MethodName)) ∈ xT0 := xTc7 27 rfl rfl
theorem q1468 : (Jvm.Cond.instanceMethod ({ cls := "WeighedGateModel", name := "sheet", desc := "(III)I" } : Jvm.MethodName)) ∈ xT0 := xTc7 28 rfl rfl
theorem q1469 : (Jvm.Cond.selects "WeighedGateModel" ({ cls := "WeighedGateModel", name := "sheet", desc := "(III)I" } : Jvm.MethodName) ({ cls := "WeighedGateModel", name := "sheet", desc := "(III)I" } : Jvm.MethodName)) ∈ xT0 := xTc7 29 rfl rfl
theorem q1470 : (Jvm.Cond.code ({ cls := "WeighedGateModel", name := "sheet", desc := "(III)I" } : Jvm.MethodName) prog_13_method_79_code (5 : Nat) (Option.some Jvm.ClassFile.FieldType.int)) ∈ xT0 := xTc7 30 rfl rfl
theorem q1471 : (Jvm.Cond.methodLink "WeighedGateLaw" (164 : Nat) ({ cls := "WeighedGateModel", name := "cell", desc := "(III)I" } : Jvm.MethodName)) ∈ xT0 := xTc7 31 rfl rfl
theorem q1472 : (Jvm.Cond.instanceMethod ({ cls := "WeighedGateModel", name := "cell", desc := "(III)I" } : Jvm.MethodName)) ∈ xT0 := xTc7 32 rfl rfl
theorem q1473 : (Jvm.Cond.selects "WeighedGateModel" ({ cls := "WeighedGateModel", name := "cell", desc := "(III)I" } : Jvm.MethodName) ({ cls := "WeighedGateModel", name := "cell", desc := "(III)I" } : Jvm.MethodName)) ∈ xT0 := xTc7 33 rfl rfl
theorem q1474 : (Jvm.Cond.code ({ cls := "WeighedGateModel", name := "cell", desc := "(III)I" } : Jvm.MethodName) prog_13_method_80_code (4 : Nat) (Option.some Jvm.ClassFile.FieldType.int)) ∈ xT0 := xTc7 34 rfl rfl
theorem q1475 : (Jvm.Cond.methodLink "WeighedGateLaw" (168 : Nat) ({ cls := "WeighedGateModel", name := "copy", desc := "(IIIII)I" } : Jvm.MethodName)) ∈ xT0 := xTc7 35 rfl rfl
theorem q1476 : (Jvm.Cond.instanceMethod ({ cls := "WeighedGateModel", name := "copy", desc := "(IIIII)I" } : Jvm.MethodName)) ∈ xT0 := xTc7 36 rfl rfl
theorem q1477 : (Jvm.Cond.selects "WeighedGateModel" ({ cls := "WeighedGateModel", name := "copy", desc := "(IIIII)I" } : Jvm.MethodName) ({ cls := "WeighedGateModel", name := "copy", desc := "(IIIII)I" } : Jvm.MethodName)) ∈ xT0 := xTc7 37 rfl rfl
theorem q1478 : (Jvm.Cond.code ({ cls := "WeighedGateModel", name := "copy", desc := "(IIIII)I" } : Jvm.MethodName) prog_13_method_81_code (10 : Nat) (Option.some Jvm.ClassFile.FieldType.int)) ∈ xT0 := xTc7 38 rfl rfl
theorem q1479 : (Jvm.Cond.methodLink "WeighedGateLaw" (172 : Nat) ({ cls := "WeighedGateModel", name := "cartsBy", desc := "(IIII)I" } : Jvm.MethodName)) ∈ xT0 := xTc7 39 rfl rfl
theorem q1480 : (Jvm.Cond.instanceMethod ({ cls := "WeighedGateModel", name := "cartsBy", desc := "(IIII)I" } : Jvm.MethodName)) ∈ xT0 := xTc7 40 rfl rfl
theorem q1481 : (Jvm.Cond.selects "WeighedGateModel" ({ cls := "WeighedGateModel", name := "cartsBy", desc := "(IIII)I" } : Jvm.MethodName) ({ cls := "WeighedGateModel", name := "cartsBy", desc := "(IIII)I" } : Jvm.MethodName)) ∈ xT0 := xTc7 41 rfl rfl
theorem q1482 : (Jvm.Cond.code ({ cls := "WeighedGateModel", name := "cartsBy", desc := "(IIII)I" } : Jvm.MethodName) prog_13_method_82_code (9 : Nat) (Option.some Jvm.ClassFile.FieldType.int)) ∈ xT0 := xTc7 42 rfl rfl
theorem q1483 : (Jvm.Cond.methodLink "WeighedGateModel" (350 : Nat) ({ cls := "WeighedGateModel", name := "cart", desc := "(IIIII)I" } : Jvm.MethodName)) ∈ xT0 := xTc7 43 rfl rfl
theorem q1484 : (Jvm.Cond.methodLink "WeighedGateLaw" (176 : Nat) ({ cls := "WeighedGateModel", name := "taken", desc := "(II)I" } : Jvm.MethodName)) ∈ xT0 := xTc7 44 rfl rfl
theorem q1485 : (Jvm.Cond.instanceMethod ({ cls := "WeighedGateModel", name := "taken", desc := "(II)I" } : Jvm.MethodName)) ∈ xT0 := xTc7 45 rfl rfl
theorem q1486 : (Jvm.Cond.selects "WeighedGateModel" ({ cls := "WeighedGateModel", name := "taken", desc := "(II)I" } : Jvm.MethodName) ({ cls := "WeighedGateModel", name := "taken", desc := "(II)I" } : Jvm.MethodName)) ∈ xT0 := xTc7 46 rfl rfl
theorem q1487 : (Jvm.Cond.code ({ cls := "WeighedGateModel", name := "taken", desc := "(II)I" } : Jvm.MethodName) prog_13_method_84_code (3 : Nat) (Option.some Jvm.ClassFile.FieldType.int)) ∈ xT0 := xTc7 47 rfl rfl
theorem q1488 : (Jvm.Cond.methodLink "WeighedGateModel" (354 : Nat) ({ cls := "WeighedGateModel", name := "isUnder", desc := "(II)Z" } : Jvm.MethodName)) ∈ xT0 := xTc7 48 rfl rfl
theorem q1489 : (Jvm.Cond.static ({ cls := "WeighedGateModel", name := "isUnder", desc := "(II)Z" } : Jvm.MethodName)) ∈ xT0 := xTc7 49 rfl rfl
theorem q1490 : (Jvm.Cond.code ({ cls := "WeighedGateModel", name := "isUnder", desc := "(II)Z" } : Jvm.MethodName) prog_13_method_83_code (2 : Nat) (Option.some Jvm.ClassFile.FieldType.boolean)) ∈ xT0 := xTc7 50 rfl rfl
theorem q1491 : (Jvm.Cond.fieldLink "java/lang/String" (9 : Nat) "java/lang/String" "value" "[B") ∈ xT0 := xTc7 51 rfl rfl
theorem q1492 : (Jvm.Cond.fieldLink "java/lang/String" (15 : Nat) "java/lang/String" "coder" "B") ∈ xT0 := xTc7 52 rfl rfl
theorem qs0 : (Jvm.Cond.selects "WeighedGate$Scale" ({ cls := "WeighedGate$Scale", name := "lay", desc := "(III)V" } : Jvm.MethodName) ({ cls := "WeighedGate$Scale", name := "lay", desc := "(III)V" } : Jvm.MethodName)) ∈ xT0 := xT0_sel 0 rfl rfl
theorem qs1 : (Jvm.Cond.selects "WeighedGate$Reader" ({ cls := "WeighedGate$Reader", name := "advance", desc := "()V" } : Jvm.MethodName) ({ cls := "WeighedGate$Reader", name := "advance", desc := "()V" } : Jvm.MethodName)) ∈ xT0 := xT0_sel 1 rfl rfl
theorem qs2 : (Jvm.Cond.selects "WeighedGate$Reader" ({ cls := "WeighedGate$Reader", name := "nextWord", desc := "()I" } : Jvm.MethodName) ({ cls := "WeighedGate$Reader", name := "nextWord", desc := "()I" } : Jvm.MethodName)) ∈ xT0 := xT0_sel 2 rfl rfl
theorem qs3 : (Jvm.Cond.selects "WeighedGate$Reader" ({ cls := "WeighedGate$Reader", name := "spells", desc := "(Ljava/lang/String;)Z" } : Jvm.MethodName) ({ cls := "WeighedGate$Reader", name := "spells", desc := "(Ljava/lang/String;)Z" } : Jvm.MethodName)) ∈ xT0 := xT0_sel 3 rfl rfl
theorem qs4 : (Jvm.Cond.selects "WeighedGate$Reader" ({ cls := "WeighedGate$Reader", name := "nextNumber", desc := "()I" } : Jvm.MethodName) ({ cls := "WeighedGate$Reader", name := "nextNumber", desc := "()I" } : Jvm.MethodName)) ∈ xT0 := xT0_sel 4 rfl rfl
theorem qs5 : (Jvm.Cond.selects "WeighedGate$Reader" ({ cls := "WeighedGate$Reader", name := "expect", desc := "(I)V" } : Jvm.MethodName) ({ cls := "WeighedGate$Reader", name := "expect", desc := "(I)V" } : Jvm.MethodName)) ∈ xT0 := xT0_sel 5 rfl rfl
theorem qs6 : (Jvm.Cond.selects "WeighedGate$Reader" ({ cls := "WeighedGate$Reader", name := "fail", desc := "()V" } : Jvm.MethodName) ({ cls := "WeighedGate$Reader", name := "fail", desc := "()V" } : Jvm.MethodName)) ∈ xT0 := xT0_sel 6 rfl rfl
theorem qs7 : (Jvm.Cond.selects "WeighedGate$Reader" ({ cls := "WeighedGate$Reader", name := "readLevel", desc := "(I)V" } : Jvm.MethodName) ({ cls := "WeighedGate$Reader", name := "readLevel", desc := "(I)V" } : Jvm.MethodName)) ∈ xT0 := xT0_sel 7 rfl rfl
theorem qs8 : (Jvm.Cond.selects "WeighedGate$Reader" ({ cls := "WeighedGate$Reader", name := "readBehind", desc := "(II)V" } : Jvm.MethodName) ({ cls := "WeighedGate$Reader", name := "readBehind", desc := "(II)V" } : Jvm.MethodName)) ∈ xT0 := xT0_sel 8 rfl rfl
theorem qs9 : (Jvm.Cond.selects "WeighedGate$Reader" ({ cls := "WeighedGate$Reader", name := "opens", desc := "()Z" } : Jvm.MethodName) ({ cls := "WeighedGate$Reader", name := "opens", desc := "()Z" } : Jvm.MethodName)) ∈ xT0 := xT0_sel 9 rfl rfl
theorem qs10 : (Jvm.Cond.selects "WeighedGate$Reader" ({ cls := "WeighedGate$Reader", name := "readOne", desc := "()V" } : Jvm.MethodName) ({ cls := "WeighedGate$Reader", name := "readOne", desc := "()V" } : Jvm.MethodName)) ∈ xT0 := xT0_sel 10 rfl rfl
theorem qs11 : (Jvm.Cond.selects "WeighedGate" ({ cls := "WeighedGate", name := "law", desc := "()LWeighedGate$Text;" } : Jvm.MethodName) ({ cls := "WeighedGate", name := "law", desc := "()LWeighedGate$Text;" } : Jvm.MethodName)) ∈ xT0 := xT0_sel 11 rfl rfl
theorem qs12 : (Jvm.Cond.selects "WeighedGate$Cart" ({ cls := "WeighedGate$Cart", name := "spoiled", desc := "(I)I" } : Jvm.MethodName) ({ cls := "WeighedGate$Cart", name := "spoiled", desc := "(I)I" } : Jvm.MethodName)) ∈ xT0 := xT0_sel 12 rfl rfl
theorem qs13 : (Jvm.Cond.selects "WeighedGate$Scale" ({ cls := "WeighedGate$Scale", name := "reaches", desc := "(III)Z" } : Jvm.MethodName) ({ cls := "WeighedGate$Scale", name := "reaches", desc := "(III)Z" } : Jvm.MethodName)) ∈ xT0 := xT0_sel 13 rfl rfl
theorem qs14 : (Jvm.Cond.selects "WeighedGate$Weighing" ({ cls := "WeighedGate$Weighing", name := "worthOf", desc := "(I)I" } : Jvm.MethodName) ({ cls := "WeighedGate$Weighing", name := "worthOf", desc := "(I)I" } : Jvm.MethodName)) ∈ xT0 := xT0_sel 14 rfl rfl
theorem qs15 : (Jvm.Cond.selects "WeighedGate$Weighing" ({ cls := "WeighedGate$Weighing", name := "fillsPans", desc := "(I)Z" } : Jvm.MethodName) ({ cls := "WeighedGate$Weighing", name := "fillsPans", desc := "(I)Z" } : Jvm.MethodName)) ∈ xT0 := xT0_sel 15 rfl rfl
theorem qs16 : (Jvm.Cond.selects "WeighedGate$Pairs" ({ cls := "WeighedGate$Pairs", name := "payOf", desc := "(IILWeighedGate$Text;)I" } : Jvm.MethodName) ({ cls := "WeighedGate$Pairs", name := "payOf", desc := "(IILWeighedGate$Text;)I" } : Jvm.MethodName)) ∈ xT0 := xT0_sel 16 rfl rfl
theorem qs17 : (Jvm.Cond.selects "WeighedGate$Pairs" ({ cls := "WeighedGate$Pairs", name := "most", desc := "(IIZ)I" } : Jvm.MethodName) ({ cls := "WeighedGate$Pairs", name := "most", desc := "(IIZ)I" } : Jvm.MethodName)) ∈ xT0 := xT0_sel 17 rfl rfl
theorem qs18 : (Jvm.Cond.selects "WeighedGate$Pairs" ({ cls := "WeighedGate$Pairs", name := "fits", desc := "(III)Z" } : Jvm.MethodName) ({ cls := "WeighedGate$Pairs", name := "fits", desc := "(III)Z" } : Jvm.MethodName)) ∈ xT0 := xT0_sel 18 rfl rfl
theorem qs19 : (Jvm.Cond.selects "WeighedGate$Pairs" ({ cls := "WeighedGate$Pairs", name := "firstOther", desc := "(II)I" } : Jvm.MethodName) ({ cls := "WeighedGate$Pairs", name := "firstOther", desc := "(II)I" } : Jvm.MethodName)) ∈ xT0 := xT0_sel 19 rfl rfl
theorem qs20 : (Jvm.Cond.selects "WeighedGate$Day" ({ cls := "WeighedGate$Day", name := "noteBest", desc := "(I)V" } : Jvm.MethodName) ({ cls := "WeighedGate$Day", name := "noteBest", desc := "(I)V" } : Jvm.MethodName)) ∈ xT0 := xT0_sel 20 rfl rfl
theorem qs21 : (Jvm.Cond.selects "WeighedGate" ({ cls := "WeighedGate", name := "runTillDusk", desc := "()V" } : Jvm.MethodName) ({ cls := "WeighedGate", name := "runTillDusk", desc := "()V" } : Jvm.MethodName)) ∈ xT0 := xT0_sel 21 rfl rfl
theorem qs22 : (Jvm.Cond.selects "WeighedGate" ({ cls := "WeighedGate", name := "refusalOfRows", desc := "(I)I" } : Jvm.MethodName) ({ cls := "WeighedGate", name := "refusalOfRows", desc := "(I)I" } : Jvm.MethodName)) ∈ xT0 := xT0_sel 22 rfl rfl
theorem qs23 : (Jvm.Cond.selects "WeighedGate" ({ cls := "WeighedGate", name := "isWeighingThatMayBe", desc := "(II)Z" } : Jvm.MethodName) ({ cls := "WeighedGate", name := "isWeighingThatMayBe", desc := "(II)Z" } : Jvm.MethodName)) ∈ xT0 := xT0_sel 23 rfl rfl
theorem qs24 : (Jvm.Cond.selects "WeighedGate" ({ cls := "WeighedGate", name := "runDrawn", desc := "(I)V" } : Jvm.MethodName) ({ cls := "WeighedGate", name := "runDrawn", desc := "(I)V" } : Jvm.MethodName)) ∈ xT0 := xT0_sel 24 rfl rfl
theorem qs25 : (Jvm.Cond.selects "WeighedGateModel" ({ cls := "WeighedGateModel", name := "next", desc := "()V" } : Jvm.MethodName) ({ cls := "WeighedGateModel", name := "next", desc := "()V" } : Jvm.MethodName)) ∈ xT0 := xT0_sel 25 rfl rfl
theorem qs26 : (Jvm.Cond.selects "WeighedGateModel" ({ cls := "WeighedGateModel", name := "wordFrom", desc := "(II)I" } : Jvm.MethodName) ({ cls := "WeighedGateModel", name := "wordFrom", desc := "(II)I" } : Jvm.MethodName)) ∈ xT0 := xT0_sel 26 rfl rfl
theorem qs27 : (Jvm.Cond.selects "WeighedGateModel" ({ cls := "WeighedGateModel", name := "eRead", desc := "()Z" } : Jvm.MethodName) ({ cls := "WeighedGateModel", name := "eRead", desc := "()Z" } : Jvm.MethodName)) ∈ xT0 := xT0_sel 27 rfl rfl
theorem qs28 : (Jvm.Cond.selects "WeighedGateModel" ({ cls := "WeighedGateModel", name := "puts", desc := "(I)V" } : Jvm.MethodName) ({ cls := "WeighedGateModel", name := "puts", desc := "(I)V" } : Jvm.MethodName)) ∈ xT0 := xT0_sel 28 rfl rfl
theorem qs29 : (Jvm.Cond.selects "WeighedGateModel" ({ cls := "WeighedGateModel", name := "unwinds", desc := "(I)V" } : Jvm.MethodName) ({ cls := "WeighedGateModel", name := "unwinds", desc := "(I)V" } : Jvm.MethodName)) ∈ xT0 := xT0_sel 29 rfl rfl
theorem qs30 : (Jvm.Cond.selects "WeighedGateModel" ({ cls := "WeighedGateModel", name := "opensOne", desc := "(I)Z" } : Jvm.MethodName) ({ cls := "WeighedGateModel", name := "opensOne", desc := "(I)Z" } : Jvm.MethodName)) ∈ xT0 := xT0_sel 30 rfl rfl
theorem qs31 : (Jvm.Cond.selects "WeighedGateModel" ({ cls := "WeighedGateModel", name := "holds", desc := "(I)V" } : Jvm.MethodName) ({ cls := "WeighedGateModel", name := "holds", desc := "(I)V" } : Jvm.MethodName)) ∈ xT0 := xT0_sel 31 rfl rfl
theorem qs32 : (Jvm.Cond.selects "WeighedGateModel" ({ cls := "WeighedGateModel", name := "signOf", desc := "()I" } : Jvm.MethodName) ({ cls := "WeighedGateModel", name := "signOf", desc := "()I" } : Jvm.MethodName)) ∈ xT0 := xT0_sel 32 rfl rfl
theorem qs33 : (Jvm.Cond.selects "WeighedGateModel" ({ cls := "WeighedGateModel", name := "between", desc := "(I)Z" } : Jvm.MethodName) ({ cls := "WeighedGateModel", name := "between", desc := "(I)Z" } : Jvm.MethodName)) ∈ xT0 := xT0_sel 33 rfl rfl
theorem qs34 : (Jvm.Cond.selects "WeighedGateModel" ({ cls := "WeighedGateModel", name := "asksOf", desc := "(IIIIIII)I" } : Jvm.MethodName) ({ cls := "WeighedGateModel", name := "asksOf", desc := "(IIIIIII)I" } : Jvm.MethodName)) ∈ xT0 := xT0_sel 34 rfl rfl
theorem qs35 : (Jvm.Cond.selects "WeighedGateModel" ({ cls := "WeighedGateModel", name := "worth", desc := "(I)I" } : Jvm.MethodName) ({ cls := "WeighedGateModel", name := "worth", desc := "(I)I" } : Jvm.MethodName)) ∈ xT0 := xT0_sel 35 rfl rfl
theorem qs36 : (Jvm.Cond.selects "WeighedGateModel" ({ cls := "WeighedGateModel", name := "isCart", desc := "(I)Z" } : Jvm.MethodName) ({ cls := "WeighedGateModel", name := "isCart", desc := "(I)Z" } : Jvm.MethodName)) ∈ xT0 := xT0_sel 36 rfl rfl
theorem qs37 : (Jvm.Cond.selects "WeighedGateModel" ({ cls := "WeighedGateModel", name := "weighs", desc := "(II)I" } : Jvm.MethodName) ({ cls := "WeighedGateModel", name := "weighs", desc := "(II)I" } : Jvm.MethodName)) ∈ xT0 := xT0_sel 37 rfl rfl
theorem qs38 : (Jvm.Cond.selects "WeighedGateModel" ({ cls := "WeighedGateModel", name := "waited", desc := "(II)I" } : Jvm.MethodName) ({ cls := "WeighedGateModel", name := "waited", desc := "(II)I" } : Jvm.MethodName)) ∈ xT0 := xT0_sel 38 rfl rfl
theorem qs39 : (Jvm.Cond.selects "WeighedGateModel" ({ cls := "WeighedGateModel", name := "worthAt", desc := "(II)I" } : Jvm.MethodName) ({ cls := "WeighedGateModel", name := "worthAt", desc := "(II)I" } : Jvm.MethodName)) ∈ xT0 := xT0_sel 39 rfl rfl
theorem qs40 : (Jvm.Cond.selects "WeighedGateModel" ({ cls := "WeighedGateModel", name := "findsMade", desc := "()V" } : Jvm.MethodName) ({ cls := "WeighedGateModel", name := "findsMade", desc := "()V" } : Jvm.MethodName)) ∈ xT0 := xT0_sel 40 rfl rfl
theorem qs41 : (Jvm.Cond.selects "WeighedGateModel" ({ cls := "WeighedGateModel", name := "makes", desc := "(III)V" } : Jvm.MethodName) ({ cls := "WeighedGateModel", name := "makes", desc := "(III)V" } : Jvm.MethodName)) ∈ xT0 := xT0_sel 41 rfl rfl
theorem qs42 : (Jvm.Cond.selects "WeighedGateModel" ({ cls := "WeighedGateModel", name := "allCarts", desc := "()I" } : Jvm.MethodName) ({ cls := "WeighedGateModel", name := "allCarts", desc := "()I" } : Jvm.MethodName)) ∈ xT0 := xT0_sel 42 rfl rfl
theorem qs43 : (Jvm.Cond.selects "WeighedGateModel" ({ cls := "WeighedGateModel", name := "weighing", desc := "(II)V" } : Jvm.MethodName) ({ cls := "WeighedGateModel", name := "weighing", desc := "(II)V" } : Jvm.MethodName)) ∈ xT0 := xT0_sel 43 rfl rfl
theorem qs44 : (Jvm.Cond.selects "WeighedGateModel" ({ cls := "WeighedGateModel", name := "madeBy", desc := "(I)I" } : Jvm.MethodName) ({ cls := "WeighedGateModel", name := "madeBy", desc := "(I)I" } : Jvm.MethodName)) ∈ xT0 := xT0_sel 44 rfl rfl
theorem qs45 : (Jvm.Cond.selects "WeighedGateModel" ({ cls := "WeighedGateModel", name := "findsPairs", desc := "(I)V" } : Jvm.MethodName) ({ cls := "WeighedGateModel", name := "findsPairs", desc := "(I)V" } : Jvm.MethodName)) ∈ xT0 := xT0_sel 45 rfl rfl
theorem qs46 : (Jvm.Cond.selects "WeighedGateModel" ({ cls := "WeighedGateModel", name := "findsTwos", desc := "(I)V" } : Jvm.MethodName) ({ cls := "WeighedGateModel", name := "findsTwos", desc := "(I)V" } : Jvm.MethodName)) ∈ xT0 := xT0_sel 46 rfl rfl
theorem qs47 : (Jvm.Cond.selects "WeighedGateModel" ({ cls := "WeighedGateModel", name := "pairsFrom", desc := "(IIII)V" } : Jvm.MethodName) ({ cls := "WeighedGateModel", name := "pairsFrom", desc := "(IIII)V" } : Jvm.MethodName)) ∈ xT0 := xT0_sel 47 rfl rfl
theorem qs48 : (Jvm.Cond.selects "WeighedGateModel" ({ cls := "WeighedGateModel", name := "findsBest", desc := "(II)V" } : Jvm.MethodName) ({ cls := "WeighedGateModel", name := "findsBest", desc := "(II)V" } : Jvm.MethodName)) ∈ xT0 := xT0_sel 48 rfl rfl
theorem qs49 : (Jvm.Cond.selects "WeighedGateModel" ({ cls := "WeighedGateModel", name := "lives", desc := "(I)V" } : Jvm.MethodName) ({ cls := "WeighedGateModel", name := "lives", desc := "(I)V" } : Jvm.MethodName)) ∈ xT0 := xT0_sel 49 rfl rfl
theorem qs50 : (Jvm.Cond.selects "WeighedGateModel" ({ cls := "WeighedGateModel", name := "goesThrough", desc := "(I)V" } : Jvm.MethodName) ({ cls := "WeighedGateModel", name := "goesThrough", desc := "(I)V" } : Jvm.MethodName)) ∈ xT0 := xT0_sel 50 rfl rfl
theorem qs51 : (Jvm.Cond.selects "WeighedGateModel" ({ cls := "WeighedGateModel", name := "earnedBy", desc := "()I" } : Jvm.MethodName) ({ cls := "WeighedGateModel", name := "earnedBy", desc := "()I" } : Jvm.MethodName)) ∈ xT0 := xT0_sel 51 rfl rfl
theorem qs52 : (Jvm.Cond.selects "WeighedGateModel" ({ cls := "WeighedGateModel", name := "sheetWrong", desc := "(I)I" } : Jvm.MethodName) ({ cls := "WeighedGateModel", name := "sheetWrong", desc := "(I)I" } : Jvm.MethodName)) ∈ xT0 := xT0_sel 52 rfl rfl
theorem qs53 : (Jvm.Cond.selects "WeighedGateModel" ({ cls := "WeighedGateModel", name := "isRow", desc := "(IIII)Z" } : Jvm.MethodName) ({ cls := "WeighedGateModel", name := "isRow", desc := "(IIII)Z" } : Jvm.MethodName)) ∈ xT0 := xT0_sel 53 rfl rfl
theorem qs54 : (Jvm.Cond.selects "WeighedGateModel" ({ cls := "WeighedGateModel", name := "areRows", desc := "(I)Z" } : Jvm.MethodName) ({ cls := "WeighedGateModel", name := "areRows", desc := "(I)Z" } : Jvm.MethodName)) ∈ xT0 := xT0_sel 54 rfl rfl
theorem qs55 : (Jvm.Cond.selects "WeighedGateModel" ({ cls := "WeighedGateModel", name := "rowsOfDay", desc := "()I" } : Jvm.MethodName) ({ cls := "WeighedGateModel", name := "rowsOfDay", desc := "()I" } : Jvm.MethodName)) ∈ xT0 := xT0_sel 55 rfl rfl
theorem qs56 : (Jvm.Cond.selects "WeighedGateModel" ({ cls := "WeighedGateModel", name := "draws", desc := "(I)V" } : Jvm.MethodName) ({ cls := "WeighedGateModel", name := "draws", desc := "(I)V" } : Jvm.MethodName)) ∈ xT0 := xT0_sel 56 rfl rfl
